import java.util.Arrays;

/**
 * Deeds that begin at a place and run by calls to stones: their corners, what they hold and whose it is, the slips,
 * needles and chains that close them best, laws told in texts, sheets, slots and an image to go back to.
 *
 * <p>All rows are made with the object and used again, so that no call makes anything.
 */
public final class OakDeeds {
    public static final int BAD = -1000000001, NO = -1000000002, FULL = -1000000003, NONE = -1000000005,
            NOTHING = -1000000011, KIND = -1000000012, INDEX = -1000000013, SIZE = -1000000014;

    private static final int STONES = 8, DEEDS = 4, CALLS = 10, TEXTS = 14, TAPE = 96, WAITING = 60;
    private static final int SHEETS = 4, SLOTS = 5, PLACES = 24;
    private static final int FAR_STONE = 99, LAST_YEAR = 999, MOST_SLACK = 9, WAYS = 8, LONGEST = 20;

    /** Eight ways: the lowest three bits are the rest by 8, of numbers below 0 too. */
    private static final int REST_BY_WAYS = WAYS - 1;

    /** More than any gap, or all gaps together, or any way between two places. */
    private static final int BEYOND = 1000000;

    /** Cells a side; a row of them is the lowest bits of an int. */
    private static final int CELLS = 30, WHOLE_ROW = (1 << CELLS) - 1;

    private static final int CALL = 0, STRAIGHT = 1, BACK = 2, TO = 3, HALF = 4, SLIP = 5, KINDS = 6;
    private static final int[] ABOVE = {-1, CALL, CALL, STRAIGHT, BACK, CALL};
    private static final int[] STEP_X = {1, 1, 0, -1, -1, -1, 0, 1};
    private static final int[] STEP_Y = {0, 1, 1, 1, 0, -1, -1, -1};

    private static final int SLIP_NONE = 0, SLIP_LEFT_OUT = 1, SLIP_TURNED = 2, SLIP_EXCHANGED = 3;

    private static final int KEY_NEEDLE = 0, KEY_CHAIN = 1, KEY_FIRST = 2;

    private static final int MISSING = -1, SHORTS = 0, FLOATS = 1, MOST_FLOAT = 99999;

    private static final int HOLDS_NOTHING = 0, HOLDS_CALL = 1, HOLDS_SHEET = 2, HOLDS_NUMBER = 3;

    private final Land land;
    private final Land image;
    private boolean imaged;
    private final Walk walk;
    private final Walk imageWalk;
    private final Cells cells;
    private final Cells cellsThen;
    private final Laws laws;
    private final Reader reader;
    private final Row[] sheets;
    private final Slot[] slots;
    private final int[] waiting;
    private int waits;

    public OakDeeds() {
        laws = new Laws();
        land = new Land(laws);
        image = new Land(laws);
        walk = new Walk(land);
        imageWalk = new Walk(image);
        cells = new Cells();
        cellsThen = new Cells();
        reader = new Reader();
        sheets = new Row[SHEETS];
        for (int i = 0; i < SHEETS; i++) {
            sheets[i] = new Row();
        }
        slots = new Slot[SLOTS];
        for (int i = 0; i < SLOTS; i++) {
            slots[i] = new Slot();
        }
        waiting = new int[WAITING];
    }

    // ---- stones, deeds

    public int stone(int x, int y) {
        if (!isStonePlace(x, y)) {
            return BAD;
        }
        if (land.stones >= STONES) {
            return FULL;
        }
        land.stones++;
        land.putStone(land.stones - 1, x, y);
        return land.stones - 1;
    }

    public int stoneTold(int stone, int what) {
        if (!land.hasStone(stone) || !isWithin(what, 0, 1)) {
            return BAD;
        }
        return what == 0 ? land.stoneX[stone] : land.stoneY[stone];
    }

    public int move(int stone, int x, int y) {
        if (!land.hasStone(stone) || !isStonePlace(x, y)) {
            return BAD;
        }
        int far = farApart(land.stoneX[stone], land.stoneY[stone], x, y);
        land.putStone(stone, x, y);
        return far;
    }

    public int deed(int begins, int year, int slack) {
        if (!isCell(begins) || !isYear(year) || !isSlack(slack)) {
            return BAD;
        }
        if (land.deeds >= DEEDS) {
            return FULL;
        }
        Deed one = land.deed[land.deeds];
        one.beginAt(begins);
        one.year = year;
        one.slack = slack;
        one.calls = 0;
        land.deeds++;
        return land.deeds - 1;
    }

    public int deedTold(int deed, int what) {
        if (!land.hasDeed(deed)) {
            return BAD;
        }
        Deed one = land.deed[deed];
        switch (what) {
            case 0:
                return one.x;
            case 1:
                return one.y;
            case 2:
                return one.year;
            case 3:
                return one.slack;
            case 4:
                return one.calls;
            case 5:
                return land.needleOf(deed);
            case 6:
                return land.chainOf(deed);
            case 7:
                return land.rankOf(deed);
            default:
                return BAD;
        }
    }

    public int set(int deed, int what, int v) {
        if (!land.hasDeed(deed)) {
            return BAD;
        }
        Deed one = land.deed[deed];
        int was = BAD;
        if (what == 0 && isYear(v)) {
            was = one.year;
            one.year = v;
        } else if (what == 1 && isSlack(v)) {
            was = one.slack;
            one.slack = v;
        } else if (what == 2 && isCell(v)) {
            was = 100 * one.x + one.y;
            one.beginAt(v);
        }
        return was;
    }

    // ---- calls

    public int call(int deed, int kind, int run) {
        if (!land.hasDeed(deed) || !isKind(kind) || !isRun(run)) {
            return BAD;
        }
        Deed one = land.deed[deed];
        if (one.calls >= CALLS) {
            return FULL;
        }
        one.addCall(kind, run / 100, run % 100);
        return one.calls - 1;
    }

    public int told(int deed, int call, int what) {
        if (!land.hasCall(deed, call)) {
            return BAD;
        }
        Deed one = land.deed[deed];
        switch (what) {
            case 0:
                return one.kinds[call];
            case 1:
                return one.ways[call];
            case 2:
                return one.lengths[call];
            case 3:
                return trueOf(one.lengths[call], land.chainOf(deed));
            case 4:
                return worthOf(one.kinds[call], one.ways[call], one.lengths[call]);
            default:
                return BAD;
        }
    }

    public int as(int deed, int call, int kind) {
        if (!land.hasCall(deed, call) || !isKind(kind)) {
            return BAD;
        }
        Deed one = land.deed[deed];
        return isOfKind(one.kinds[call], kind) ? one.lengths[call] : KIND;
    }

    public int turns(int deed, int call, int kind) {
        if (!land.hasCall(deed, call) || !isKind(kind)) {
            return BAD;
        }
        Deed one = land.deed[deed];
        int was = one.kinds[call];
        one.kinds[call] = kind;
        return was;
    }

    public int drop(int deed, int call) {
        if (!land.hasCall(deed, call)) {
            return BAD;
        }
        land.deed[deed].removeCall(call);
        return land.deed[deed].calls;
    }

    public int deal(int deed, int n) {
        if (!land.hasDeed(deed) || !isWithin(n, 1, CALLS)) {
            return BAD;
        }
        Deed one = land.deed[deed];
        int came = Math.min(n, CALLS - one.calls);
        for (int i = 0; i < came; i++) {
            int kind = land.drawNumber() % 3;
            int way = land.drawNumber() % WAYS;
            int length = 1 + land.drawNumber() % 12;
            one.addCall(kind, way, length);
        }
        return came;
    }

    public int seed(int v) {
        int was = land.z;
        land.z = v;
        return was;
    }

    // ---- what deeds hold

    public int corner(int deed, int i, int what) {
        if (!land.hasDeed(deed) || i < 0 || !isWithin(what, 0, 1)) {
            return BAD;
        }
        walk.traceDeed(deed);
        if (i >= walk.corners) {
            return NONE;
        }
        return what == 0 ? walk.xs[i] : walk.ys[i];
    }

    public int gap(int deed) {
        if (!land.hasDeed(deed)) {
            return BAD;
        }
        return walk.gapBy(deed, land.needleOf(deed), land.chainOf(deed));
    }

    public int area(int deed) {
        if (!land.hasDeed(deed)) {
            return BAD;
        }
        walk.traceDeed(deed);
        return walk.twiceArea();
    }

    public int holds(int deed, int cell) {
        if (!land.hasDeed(deed) || !isCell(cell)) {
            return BAD;
        }
        cells.fillDeed(walk, deed);
        return cells.isHeld(deed, cell / 100, cell % 100) ? 1 : 0;
    }

    public int field(int deed) {
        if (!land.hasDeed(deed)) {
            return BAD;
        }
        cells.fillDeed(walk, deed);
        return countBits(cells.held[deed]);
    }

    public int over(int one, int other) {
        if (!land.hasDeed(one) || !land.hasDeed(other) || one == other) {
            return BAD;
        }
        cells.fillDeed(walk, one);
        cells.fillDeed(walk, other);
        int both = 0;
        for (int y = 0; y < CELLS; y++) {
            both += Integer.bitCount(cells.held[one][y] & cells.held[other][y]);
        }
        return both;
    }

    public int whose(int cell) {
        if (!isCell(cell)) {
            return BAD;
        }
        cells.fillOwners(walk);
        for (int d = 0; d < land.deeds; d++) {
            if (cells.isHeld(d, cell / 100, cell % 100)) {
                return d;
            }
        }
        return NONE;
    }

    public int owned(int deed) {
        if (deed != -1 && !land.hasDeed(deed)) {
            return BAD;
        }
        cells.fillOwners(walk);
        return countBits(deed == -1 ? cells.nobodys : cells.held[deed]);
    }

    // ---- slips, needles, chains, stones

    public int slip(int deed, int what) {
        if (!land.hasDeed(deed) || !isWithin(what, 0, 2)) {
            return BAD;
        }
        walk.findBestSlip(deed);
        if (what == 0) {
            return walk.bestGap;
        }
        if (what == 1) {
            return walk.bestSlip;
        }
        return walk.bestSlip == SLIP_NONE ? NONE : walk.bestCall;
    }

    public int best(int deed, int what) {
        if (!land.hasDeed(deed) || !isWithin(what, 0, 3)) {
            return BAD;
        }
        if (what < 2) {
            walk.findBestNeedle(deed);
            return what == 0 ? walk.bestNumber : walk.bestGap;
        }
        walk.findBestChain(deed);
        return what == 2 ? walk.bestNumber : walk.bestGap;
    }

    public int learn(int year) {
        if (!isYear(year)) {
            return BAD;
        }
        if (!land.hasYear(year)) {
            return NONE;
        }
        return walk.learntOf(year);
    }

    public int near(int stone, int what) {
        if (!land.hasStone(stone) || !isWithin(what, 0, 1)) {
            return BAD;
        }
        if (land.deeds == 0) {
            return NONE;
        }
        int nearest = 0;
        int least = BEYOND;
        for (int d = 0; d < land.deeds; d++) {
            walk.traceDeed(d);
            for (int i = 0; i < walk.corners; i++) {
                int far = farApart(walk.xs[i], walk.ys[i], land.stoneX[stone], land.stoneY[stone]);
                if (far < least) {
                    least = far;
                    nearest = 100 * d + i;
                }
            }
        }
        return what == 0 ? nearest : least;
    }

    public int would(int stone, int x, int y) {
        if (!land.hasStone(stone) || !isStonePlace(x, y)) {
            return BAD;
        }
        int wasX = land.stoneX[stone];
        int wasY = land.stoneY[stone];
        cells.fillOwners(walk);
        land.putStone(stone, x, y);
        cellsThen.fillOwners(walk);
        land.putStone(stone, wasX, wasY);
        return cells.countUnlike(cellsThen, land.deeds);
    }

    // ---- texts

    public int feed(int a, int b, int c) {
        if (reader.length + 12 > TAPE) {
            return FULL;
        }
        reader.addFour(a);
        reader.addFour(b);
        reader.addFour(c);
        return reader.length;
    }

    public int trim(int n) {
        if (!isWithin(n, 0, reader.length)) {
            return BAD;
        }
        reader.length = n;
        return n;
    }

    public int text() {
        boolean right = reader.parseTape();
        reader.length = 0;
        if (!right) {
            return -100 - reader.start;
        }
        if (land.texts >= TEXTS) {
            return FULL;
        }
        laws.texts[land.texts].takeFrom(reader);
        land.texts++;
        return land.texts - 1;
    }

    public int textTold(int text, int what) {
        if (!isWithin(text, 0, land.texts - 1) || !isWithin(what, 0, 1)) {
            return BAD;
        }
        return what == 0 ? laws.texts[text].key : laws.texts[text].atoms;
    }

    public int why(int key) {
        if (!isWithin(key, KEY_NEEDLE, KEY_FIRST)) {
            return BAD;
        }
        return laws.lastOf(key, land.texts);
    }

    // ---- sheets, slots

    public int sheet(int sheet, int sort, int n) {
        if (!isSheet(sheet) || !isWithin(sort, MISSING, FLOATS)) {
            return BAD;
        }
        if (sort == MISSING) {
            sheets[sheet].become(MISSING, 0);
            return 0;
        }
        if (n > PLACES) {
            return BAD;
        }
        if (n < 0) {
            return SIZE;
        }
        sheets[sheet].become(sort, n);
        return n;
    }

    public int mark(int sheet, int place, int v) {
        if (!isSheet(sheet)) {
            return BAD;
        }
        Row row = sheets[sheet];
        if (row.sort == MISSING) {
            return NOTHING;
        }
        if (!row.hasPlace(place)) {
            return INDEX;
        }
        if (row.sort == SHORTS && v == NONE) {
            return KIND;
        }
        if (row.sort == FLOATS && v != NONE && !isWithin(v, -MOST_FLOAT, MOST_FLOAT)) {
            return BAD;
        }
        row.places[place] = row.sort == SHORTS ? (short) v : v;
        return 1;
    }

    public int pour(int sheet, int deed) {
        if (!isSheet(sheet) || !land.hasDeed(deed)) {
            return BAD;
        }
        Row row = sheets[sheet];
        if (row.sort == MISSING) {
            return NOTHING;
        }
        int come = 0;
        while (come < row.size && isRun(row.places[come])) {
            come++;
        }
        Deed one = land.deed[deed];
        if (come > CALLS - one.calls) {
            return FULL;
        }
        for (int i = 0; i < come; i++) {
            one.addCall(CALL, row.places[i] / 100, row.places[i] % 100);
        }
        return come;
    }

    public int reads(int sheet, int deed) {
        if (!isSheet(sheet) || !land.hasDeed(deed)) {
            return BAD;
        }
        Row row = sheets[sheet];
        if (row.sort == MISSING) {
            return NOTHING;
        }
        walk.traceDeed(deed);
        for (int i = 0; i < row.size; i++) {
            boolean right = i < 2 * walk.corners && row.places[i] == walk.cornersInRow(i);
            if (row.places[i] != NONE && !right) {
                return i;
            }
        }
        return NONE;
    }

    public int copy(int from, int place, int to, int at, int many) {
        if (!isSheet(from) || !isSheet(to)) {
            return BAD;
        }
        Row source = sheets[from];
        Row target = sheets[to];
        if (source.sort == MISSING || target.sort == MISSING) {
            return NOTHING;
        }
        if (source.sort != target.sort) {
            return KIND;
        }
        if (!source.hasRun(place, many) || !target.hasRun(at, many)) {
            return INDEX;
        }
        System.arraycopy(source.places, place, target.places, at, many);
        return many;
    }

    public int lay(int slot, int thing, int k) {
        if (!isSlot(slot) || !isWithin(thing, HOLDS_NOTHING, HOLDS_NUMBER)) {
            return BAD;
        }
        Slot one = slots[slot];
        if (thing == HOLDS_CALL) {
            if (k < 0 || !land.hasCall(k / 100, k % 100)) {
                return BAD;
            }
            one.takeCall(land.deed[k / 100], k % 100);
        }
        if (thing == HOLDS_SHEET) {
            if (!isSheet(k)) {
                return BAD;
            }
            if (sheets[k].sort == MISSING) {
                return NOTHING;
            }
            one.row.takeFrom(sheets[k]);
        }
        if (thing == HOLDS_NUMBER) {
            one.number = k;
        }
        int was = one.thing;
        one.thing = thing;
        return was;
    }

    public int ask(int slot, int kind) {
        if (!isSlot(slot) || !isKind(kind)) {
            return BAD;
        }
        Slot one = slots[slot];
        if (one.thing == HOLDS_NOTHING) {
            return NOTHING;
        }
        if (one.thing != HOLDS_CALL || !isOfKind(one.kind, kind)) {
            return KIND;
        }
        return worthOf(one.kind, one.way, one.length);
    }

    public int item(int slot, int place) {
        if (!isSlot(slot)) {
            return BAD;
        }
        Slot one = slots[slot];
        if (one.thing == HOLDS_NOTHING) {
            return NOTHING;
        }
        if (one.thing != HOLDS_SHEET) {
            return KIND;
        }
        if (!one.row.hasPlace(place)) {
            return INDEX;
        }
        return one.row.places[place] == NONE ? KIND : one.row.places[place];
    }

    public int rest(int slot, int n) {
        if (!isSlot(slot)) {
            return BAD;
        }
        Slot one = slots[slot];
        if (one.thing == HOLDS_NOTHING) {
            return NOTHING;
        }
        if (one.thing != HOLDS_NUMBER) {
            return KIND;
        }
        return n == 0 ? NO : one.number % n;
    }

    // ---- rows, images

    public int tell(int v) {
        if (waits >= WAITING) {
            return FULL;
        }
        waiting[waits] = v;
        waits++;
        return waits;
    }

    public int check(int deed) {
        int many = waits;
        waits = 0;
        if (!imaged) {
            return NO;
        }
        if (!image.hasDeed(deed)) {
            return BAD;
        }
        imageWalk.traceDeed(deed);
        int due = 2 * imageWalk.corners - 2;
        int right = 0;
        while (right < many && right < due && waiting[right] == imageWalk.cornersInRow(right + 2)) {
            right++;
        }
        return right == many && right == due ? 0 : 1 + right;
    }

    public int keep() {
        image.takeFrom(land);
        imaged = true;
        return image.deeds;
    }

    public int back() {
        if (!imaged) {
            return NO;
        }
        land.takeFrom(image);
        return land.deeds;
    }

    public int count(int what) {
        switch (what) {
            case 0:
                return land.stones;
            case 1:
                return land.deeds;
            case 2:
                return land.callsOfAll();
            case 3:
                return land.texts;
            case 4:
                return waits;
            case 5:
                return reader.length;
            case 6:
                return land.z;
            default:
                return BAD;
        }
    }

    // ---- what numbers may be

    private static boolean isWithin(int v, int least, int most) {
        return v >= least && v <= most;
    }

    private static boolean isStonePlace(int x, int y) {
        return isWithin(x, -FAR_STONE, FAR_STONE) && isWithin(y, -FAR_STONE, FAR_STONE);
    }

    /** A beginning is told as a cell is: 100 times x, and y. */
    private static boolean isCell(int cell) {
        return cell >= 0 && cell / 100 < CELLS && cell % 100 < CELLS;
    }

    private static boolean isYear(int year) {
        return isWithin(year, 0, LAST_YEAR);
    }

    private static boolean isSlack(int slack) {
        return isWithin(slack, -MOST_SLACK, MOST_SLACK);
    }

    private static boolean isKind(int kind) {
        return isWithin(kind, 0, KINDS - 1);
    }

    private static boolean isRun(int run) {
        return run >= 0 && run / 100 < WAYS && isWithin(run % 100, 1, LONGEST);
    }

    private static boolean isSheet(int sheet) {
        return isWithin(sheet, 0, SHEETS - 1);
    }

    private static boolean isSlot(int slot) {
        return isWithin(slot, 0, SLOTS - 1);
    }

    // ---- what calls are worth, how far places lie apart

    private static boolean isOfKind(int kind, int wanted) {
        int k = kind;
        for (int step = 0; step < KINDS && isKind(k); step++) {
            if (k == wanted) {
                return true;
            }
            k = ABOVE[k];
        }
        return false;
    }

    private static int worthOf(int kind, int way, int length) {
        switch (kind) {
            case STRAIGHT:
                return length + way;
            case TO:
                return 2 * (length + way);
            case BACK:
                return 50;
            case HALF:
                return 50 + length;
            case SLIP:
                return -length;
            default:
                return length;
        }
    }

    private static int trueOf(int length, int chain) {
        return length * (100 + chain) / 100;
    }

    private static int farApart(int x, int y, int otherX, int otherY) {
        return Math.abs(x - otherX) + Math.abs(y - otherY);
    }

    private static int countBits(int[] rows) {
        int bits = 0;
        for (int y = 0; y < rows.length; y++) {
            bits += Integer.bitCount(rows[y]);
        }
        return bits;
    }

    /** A deed with its calls. */
    private static final class Deed {
        int x;
        int y;
        int year;
        int slack;
        int calls;
        final int[] kinds = new int[CALLS];
        final int[] ways = new int[CALLS];
        final int[] lengths = new int[CALLS];

        void beginAt(int cell) {
            x = cell / 100;
            y = cell % 100;
        }

        boolean hasNumber(int call) {
            return isWithin(call, 0, calls - 1);
        }

        void addCall(int kind, int way, int length) {
            if (calls < CALLS) {
                kinds[calls] = kind;
                ways[calls] = way;
                lengths[calls] = length;
                calls++;
            }
        }

        void removeCall(int call) {
            if (!hasNumber(call)) {
                return;
            }
            for (int i = call; i + 1 < calls; i++) {
                kinds[i] = kinds[i + 1];
                ways[i] = ways[i + 1];
                lengths[i] = lengths[i + 1];
            }
            calls--;
        }

        void takeFrom(Deed other) {
            x = other.x;
            y = other.y;
            year = other.year;
            slack = other.slack;
            calls = other.calls;
            for (int i = 0; i < CALLS; i++) {
                kinds[i] = other.kinds[i];
                ways[i] = other.ways[i];
                lengths[i] = other.lengths[i];
            }
        }
    }

    /**
     * All that an image keeps. Of texts it has their number alone: texts are only ever added behind those of the
     * image, so the first ones stay what they were when it was kept.
     */
    private static final class Land {
        final Laws laws;
        int stones;
        final int[] stoneX = new int[STONES];
        final int[] stoneY = new int[STONES];
        int deeds;
        final Deed[] deed = new Deed[DEEDS];
        int texts;
        int z = 1;

        Land(Laws laws) {
            this.laws = laws;
            for (int i = 0; i < DEEDS; i++) {
                deed[i] = new Deed();
            }
        }

        void takeFrom(Land other) {
            stones = other.stones;
            for (int i = 0; i < STONES; i++) {
                stoneX[i] = other.stoneX[i];
                stoneY[i] = other.stoneY[i];
            }
            deeds = other.deeds;
            for (int i = 0; i < DEEDS; i++) {
                deed[i].takeFrom(other.deed[i]);
            }
            texts = other.texts;
            z = other.z;
        }

        boolean hasStone(int number) {
            return isWithin(number, 0, stones - 1);
        }

        boolean hasDeed(int number) {
            return isWithin(number, 0, deeds - 1);
        }

        boolean hasCall(int number, int call) {
            return hasDeed(number) && deed[number].hasNumber(call);
        }

        boolean hasYear(int year) {
            for (int d = 0; d < deeds; d++) {
                if (deed[d].year == year) {
                    return true;
                }
            }
            return false;
        }

        void putStone(int number, int x, int y) {
            if (hasStone(number)) {
                stoneX[number] = x;
                stoneY[number] = y;
            }
        }

        int callsOfAll() {
            int all = 0;
            for (int d = 0; d < deeds; d++) {
                all += deed[d].calls;
            }
            return all;
        }

        int drawNumber() {
            z = z * 1103515245 + 12345;
            return z >>> 8;
        }

        int needleOf(int number) {
            int law = laws.lastOf(KEY_NEEDLE, texts);
            return law == NONE ? 0 : laws.workOut(law, deed[number], number) & REST_BY_WAYS;
        }

        int chainOf(int number) {
            int law = laws.lastOf(KEY_CHAIN, texts);
            if (law == NONE) {
                return deed[number].slack;
            }
            return Math.max(-MOST_SLACK, Math.min(MOST_SLACK, laws.workOut(law, deed[number], number)));
        }

        int rankOf(int number) {
            int law = laws.lastOf(KEY_FIRST, texts);
            return law == NONE ? deed[number].year : laws.workOut(law, deed[number], number);
        }
    }

    /** Walks deeds of a land: their corners, their gaps, and what makes these least. */
    private static final class Walk {
        final Land land;
        final int[] xs = new int[CALLS + 1];
        final int[] ys = new int[CALLS + 1];
        int corners;
        int bestGap;
        int bestSlip;
        int bestCall;
        int bestNumber;
        int beginX;
        int beginY;
        int needle;
        int chain;
        int x;
        int y;

        Walk(Land land) {
            this.land = land;
        }

        void setOut(Deed one, int byNeedle, int byChain) {
            beginX = one.x;
            beginY = one.y;
            needle = byNeedle;
            chain = byChain;
            x = beginX;
            y = beginY;
        }

        void stepBy(int way, int length) {
            int far = trueOf(length, chain);
            int to = way & REST_BY_WAYS;
            x += STEP_X[to] * far;
            y += STEP_Y[to] * far;
        }

        void goOn(int kind, int way, int length) {
            if (kind == TO && land.hasStone(length - 1)) {
                x = land.stoneX[length - 1];
                y = land.stoneY[length - 1];
                return;
            }
            switch (kind) {
                case STRAIGHT:
                case TO:
                    stepBy(way, length);
                    break;
                case BACK:
                    x = beginX;
                    y = beginY;
                    break;
                case HALF:
                    x = (x + beginX) / 2;
                    y = (y + beginY) / 2;
                    break;
                case SLIP:
                    stepBy(way + needle + 4, length);
                    break;
                default:
                    stepBy(way + needle, length);
            }
        }

        void traceDeed(int deed) {
            Deed one = land.deed[deed];
            setOut(one, land.needleOf(deed), land.chainOf(deed));
            xs[0] = x;
            ys[0] = y;
            for (int i = 0; i < one.calls; i++) {
                goOn(one.kinds[i], one.ways[i], one.lengths[i]);
                xs[i + 1] = x;
                ys[i + 1] = y;
            }
            corners = one.calls + 1;
        }

        /** Corners as one row of numbers, x and y by turns. */
        int cornersInRow(int place) {
            return place % 2 == 0 ? xs[place / 2] : ys[place / 2];
        }

        int twiceArea() {
            int area = 0;
            for (int i = 0; i < corners; i++) {
                int next = nextCorner(i);
                area += xs[i] * ys[next] - ys[i] * xs[next];
            }
            return area;
        }

        int nextCorner(int i) {
            return i + 1 < corners ? i + 1 : 0;
        }

        int gapHere() {
            return farApart(x, y, beginX, beginY);
        }

        int gapBy(int deed, int byNeedle, int byChain) {
            Deed one = land.deed[deed];
            setOut(one, byNeedle, byChain);
            for (int i = 0; i < one.calls; i++) {
                goOn(one.kinds[i], one.ways[i], one.lengths[i]);
            }
            return gapHere();
        }

        /** The gap by the needle and the chain of the walk ahead, with a slip at a call. */
        int gapWithSlip(Deed one, int slip, int call) {
            setOut(one, needle, chain);
            for (int i = 0; i < one.calls; i++) {
                int from = i;
                if (slip == SLIP_EXCHANGED && i == call && i + 1 < one.calls) {
                    from = i + 1;
                } else if (slip == SLIP_EXCHANGED && i > 0 && i == call + 1) {
                    from = i - 1;
                }
                if (slip != SLIP_LEFT_OUT || i != call) {
                    int turned = slip == SLIP_TURNED && i == call ? 4 : 0;
                    goOn(one.kinds[from], one.ways[from] + turned, one.lengths[from]);
                }
            }
            return gapHere();
        }

        void findBestSlip(int deed) {
            Deed one = land.deed[deed];
            bestGap = gapBy(deed, land.needleOf(deed), land.chainOf(deed));
            bestSlip = SLIP_NONE;
            bestCall = 0;
            for (int slip = SLIP_LEFT_OUT; slip <= SLIP_EXCHANGED; slip++) {
                int many = slip == SLIP_EXCHANGED ? one.calls - 1 : one.calls;
                for (int call = 0; call < many; call++) {
                    int gap = gapWithSlip(one, slip, call);
                    if (gap < bestGap) {
                        bestGap = gap;
                        bestSlip = slip;
                        bestCall = call;
                    }
                }
            }
        }

        void findBestNeedle(int deed) {
            int itsChain = land.chainOf(deed);
            bestGap = BEYOND;
            for (int n = 0; n < WAYS; n++) {
                takeIfBetter(n, gapBy(deed, n, itsChain));
            }
        }

        void findBestChain(int deed) {
            int itsNeedle = land.needleOf(deed);
            bestGap = BEYOND;
            for (int c = -MOST_SLACK; c <= MOST_SLACK; c++) {
                takeIfBetter(c, gapBy(deed, itsNeedle, c));
            }
        }

        void takeIfBetter(int number, int gap) {
            if (gap < bestGap) {
                bestGap = gap;
                bestNumber = number;
            }
        }

        int learntOf(int year) {
            bestGap = BEYOND;
            for (int n = 0; n < WAYS; n++) {
                int gaps = 0;
                for (int d = 0; d < land.deeds; d++) {
                    if (land.deed[d].year == year) {
                        gaps += gapBy(d, n, land.chainOf(d));
                    }
                }
                takeIfBetter(n, gaps);
            }
            return bestNumber;
        }
    }

    /** Which cells deeds hold, or own: a row of bits for each y. */
    private static final class Cells {
        final int[][] held = new int[DEEDS][CELLS];
        final int[] nobodys = new int[CELLS];
        final int[] ranks = new int[DEEDS];

        boolean isHeld(int deed, int x, int y) {
            return (held[deed][y] >> x & 1) == 1;
        }

        void fillDeed(Walk walk, int deed) {
            int[] rows = held[deed];
            Arrays.fill(rows, 0);
            walk.traceDeed(deed);
            for (int i = 0; i < walk.corners; i++) {
                int next = walk.nextCorner(i);
                if (walk.ys[i] < walk.ys[next]) {
                    addSide(rows, walk.xs[i], walk.ys[i], walk.xs[next], walk.ys[next]);
                } else {
                    addSide(rows, walk.xs[next], walk.ys[next], walk.xs[i], walk.ys[i]);
                }
            }
        }

        /** Each cell that lies left of the side changes from not held to held, or back: odd numbers remain. */
        void addSide(int[] rows, int lowX, int lowY, int highX, int highY) {
            int rise = highY - lowY;
            if (rise <= 0) {
                return;
            }
            int end = Math.min(highY, CELLS);
            for (int y = Math.max(lowY, 0); y < end; y++) {
                // The side is at across / (2 * rise) at this height; cells left of it have (2 x + 1) * rise < across.
                int across = 2 * lowX * rise + (highX - lowX) * (2 * (y - lowY) + 1);
                int most = Math.floorDiv(across - 1, rise);
                int left = Math.max(0, Math.min(CELLS, (most + 1) >> 1));
                rows[y] ^= (1 << left) - 1;
            }
        }

        /** Held becomes what each deed owns. */
        void fillOwners(Walk walk) {
            int deeds = walk.land.deeds;
            for (int d = 0; d < deeds; d++) {
                fillDeed(walk, d);
                ranks[d] = walk.land.rankOf(d);
            }
            Arrays.fill(nobodys, WHOLE_ROW);
            int served = 0;
            for (int turn = 0; turn < deeds; turn++) {
                int first = firstUnserved(deeds, served);
                served |= 1 << first;
                for (int y = 0; y < CELLS; y++) {
                    held[first][y] &= nobodys[y];
                    nobodys[y] &= ~held[first][y];
                }
            }
        }

        int firstUnserved(int deeds, int served) {
            int first = -1;
            for (int d = 0; d < deeds; d++) {
                if ((served >> d & 1) == 0 && (first < 0 || ranks[d] < ranks[first])) {
                    first = d;
                }
            }
            return Math.max(first, 0);
        }

        int countUnlike(Cells other, int deeds) {
            int unlike = 0;
            for (int y = 0; y < CELLS; y++) {
                int row = nobodys[y] ^ other.nobodys[y];
                for (int d = 0; d < deeds; d++) {
                    row |= held[d][y] ^ other.held[d][y];
                }
                unlike += Integer.bitCount(row);
            }
            return unlike;
        }
    }

    /** A text as a row of codes, each piece ahead of its sign: a number, or less than 0 the byte of a name or sign. */
    private static final class Text {
        int key;
        int atoms;
        int size;
        final int[] codes = new int[TAPE];

        void takeFrom(Reader reader) {
            key = reader.key;
            atoms = reader.atoms;
            size = reader.size;
            for (int i = 0; i < size; i++) {
                codes[i] = reader.codes[i];
            }
        }
    }

    /** The texts, and how they are worked out. */
    private static final class Laws {
        final Text[] texts = new Text[TEXTS];
        final int[] stack = new int[TAPE];

        Laws() {
            for (int i = 0; i < TEXTS; i++) {
                texts[i] = new Text();
            }
        }

        int lastOf(int key, int told) {
            for (int i = Math.min(told, TEXTS) - 1; i >= 0; i--) {
                if (texts[i].key == key) {
                    return i;
                }
            }
            return NONE;
        }

        int workOut(int number, Deed deed, int deedNumber) {
            Text text = texts[number];
            int top = -1;
            for (int i = 0; i < text.size; i++) {
                int code = text.codes[i];
                if (code >= 0) {
                    top++;
                    stack[top] = code;
                } else if (isLetter(-code)) {
                    top++;
                    stack[top] = named(-code, deed, deedNumber);
                } else if (code == -'!' && top >= 0) {
                    stack[top] = stack[top] == 0 ? 1 : 0;
                } else if (top >= 1) {
                    top--;
                    stack[top] = joined(-code, stack[top], stack[top + 1]);
                }
            }
            return stack[0];
        }

        static int named(int letter, Deed deed, int deedNumber) {
            switch (letter) {
                case 's':
                    return deed.slack;
                case 'n':
                    return deedNumber;
                case 'c':
                    return deed.calls;
                default:
                    return deed.year;
            }
        }

        static int joined(int sign, int a, int b) {
            switch (sign) {
                case '|':
                    return a != 0 || b != 0 ? 1 : 0;
                case '&':
                    return a != 0 && b != 0 ? 1 : 0;
                case '<':
                    return a < b ? 1 : 0;
                case '=':
                    return a == b ? 1 : 0;
                case '>':
                    return a > b ? 1 : 0;
                case '+':
                    return a + b;
                case '-':
                    return a - b;
                case '*':
                    return a * b;
                default:
                    return b == 0 ? 0 : a / b;
            }
        }
    }

    private static boolean isLetter(int b) {
        return b >= 'a' && b <= 'z';
    }

    /** The tape, and how it is read: one word or sign is looked at, from start to end. */
    private static final class Reader {
        static final int OVER = 0, LETTERS = 1, DIGITS = 2, SIGN = 3, WRONG = 4;
        static final int LEVEL_OR = 0, LEVEL_AND = 1, LEVEL_TEST = 2, LEVEL_SUM = 3, LEVEL_TERM = 4;
        static final int MOST_OPEN = 8, MOST_DIGITS = 4;

        final int[] bytes = new int[TAPE];
        int length;
        int sort;
        int start;
        int end;
        int key;
        int atoms;
        final int[] codes = new int[TAPE];
        int size;

        void addFour(int four) {
            for (int shift = 24; shift >= 0 && length < TAPE; shift -= 8) {
                bytes[length] = four >>> shift & 255;
                length++;
            }
        }

        /** Whether the tape is a text; if not, start is the place of its fault. */
        boolean parseTape() {
            sort = SIGN;
            end = 0;
            atoms = 0;
            size = 0;
            advance();
            key = keyHere();
            if (key < 0) {
                return false;
            }
            advance();
            return parseLevel(LEVEL_OR, 0, 0) && sort == OVER;
        }

        void advance() {
            boolean behindWord = sort == LETTERS || sort == DIGITS;
            start = end;
            while (start < length && bytes[start] == ' ') {
                start++;
            }
            boolean tight = behindWord && start == end;
            end = start;
            if (start >= length) {
                sort = OVER;
                return;
            }
            sort = sortOf(bytes[start]);
            end++;
            while (sort != SIGN && end < length && sortOf(bytes[end]) == sort) {
                end++;
            }
            // A word that can stand nowhere is of no sort that any rule asks for.
            if (sort != SIGN && tight || sort == DIGITS && end - start > MOST_DIGITS) {
                sort = WRONG;
            }
        }

        static int sortOf(int b) {
            if (isLetter(b)) {
                return LETTERS;
            }
            return b >= '0' && b <= '9' ? DIGITS : SIGN;
        }

        int keyHere() {
            if (isWord("needle")) {
                return KEY_NEEDLE;
            }
            if (isWord("chain")) {
                return KEY_CHAIN;
            }
            return isWord("first") ? KEY_FIRST : -1;
        }

        boolean isWord(String word) {
            if (sort != LETTERS || end - start != word.length()) {
                return false;
            }
            for (int i = 0; i < word.length(); i++) {
                if (bytes[start + i] != word.charAt(i)) {
                    return false;
                }
            }
            return true;
        }

        boolean isSign(int sign) {
            return sort == SIGN && start < length && bytes[start] == sign;
        }

        boolean isName() {
            if (sort != LETTERS || end - start != 1) {
                return false;
            }
            int letter = bytes[start];
            if (key == KEY_CHAIN && letter == 's') {
                return true;
            }
            return letter == 'y' || key == KEY_FIRST && (letter == 'n' || letter == 'c');
        }

        boolean isJoin(int level) {
            switch (level) {
                case LEVEL_OR:
                    return isSign('|');
                case LEVEL_AND:
                    return isSign('&');
                case LEVEL_TEST:
                    return isSign('<') || isSign('=') || isSign('>');
                case LEVEL_SUM:
                    return isSign('+') || isSign('-');
                default:
                    return isSign('*') || isSign('/');
            }
        }

        boolean parseLevel(int level, int parens, int nots) {
            if (level > LEVEL_TERM) {
                return parsePiece(parens, nots);
            }
            if (!parseLevel(level + 1, parens, nots)) {
                return false;
            }
            int most = level == LEVEL_TEST ? 1 : TAPE;
            for (int joins = 0; joins < most && isJoin(level); joins++) {
                int sign = bytes[start];
                advance();
                if (!parseLevel(level + 1, parens, nots)) {
                    return false;
                }
                addCode(-sign);
            }
            return true;
        }

        boolean parsePiece(int parens, int nots) {
            if (isSign('!') && nots < MOST_OPEN) {
                advance();
                boolean right = parsePiece(parens, nots + 1);
                addCode(-'!');
                return right;
            }
            if (isSign('(') && parens < MOST_OPEN) {
                advance();
                if (!parseLevel(LEVEL_OR, parens + 1, nots) || !isSign(')')) {
                    return false;
                }
                advance();
                return true;
            }
            return parseAtom();
        }

        boolean parseAtom() {
            if (sort != DIGITS && !isName()) {
                return false;
            }
            addCode(sort == DIGITS ? numberHere() : -bytes[start]);
            atoms++;
            advance();
            return true;
        }

        int numberHere() {
            int number = 0;
            for (int i = start; i < end && i < length; i++) {
                number = 10 * number + bytes[i] - '0';
            }
            return number;
        }

        void addCode(int code) {
            if (size < TAPE) {
                codes[size] = code;
                size++;
            }
        }
    }

    /** A sheet's row. No number is held as NONE, which is no short and no float that a place can have. */
    private static final class Row {
        int sort = MISSING;
        int size;
        final int[] places = new int[PLACES];

        void become(int newSort, int newSize) {
            sort = newSort;
            size = newSize;
            Arrays.fill(places, 0);
        }

        void takeFrom(Row other) {
            sort = other.sort;
            size = other.size;
            System.arraycopy(other.places, 0, places, 0, PLACES);
        }

        boolean hasPlace(int place) {
            return isWithin(place, 0, size - 1);
        }

        boolean hasRun(int place, int many) {
            return isWithin(place, 0, size) && isWithin(many, 0, size - place);
        }
    }

    private static final class Slot {
        int thing = HOLDS_NOTHING;
        int kind;
        int way;
        int length;
        int number;
        final Row row = new Row();

        void takeCall(Deed deed, int call) {
            kind = deed.kinds[call];
            way = deed.ways[call];
            length = deed.lengths[call];
        }
    }
}
