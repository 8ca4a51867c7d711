import java.util.ArrayList;
import java.util.List;

/**
 * The document written down a second time, as plainly and as slowly as it reads: classes for the kinds, fractions
 * cell by cell, texts by two passes (a state machine for the fault, splitting at the loosest sign for the value).
 * ModelRuns holds OakDeeds against it.
 */
final class Model {
    static final int BAD = -1000000001, NO = -1000000002, FULL = -1000000003, NONE = -1000000005;
    static final int NOTHING = -1000000011, KIND = -1000000012, INDEX = -1000000013, SIZE = -1000000014;
    private static final int[][] WAYS = {{1, 0}, {1, 1}, {0, 1}, {-1, 1}, {-1, 0}, {-1, -1}, {0, -1}, {1, -1}};

    record Place(int x, int y) {
        int far(Place o) {
            return Math.abs(x - o.x) + Math.abs(y - o.y);
        }
    }

    record Walk(State state, Place beginning, int needle, int chain) {
        Place by(Place from, int way, int length) {
            int[] step = WAYS[((way % 8) + 8) % 8];
            int far = length * (100 + chain) / 100;
            return new Place(from.x + step[0] * far, from.y + step[1] * far);
        }
    }

    static class Call {
        final int way;
        final int length;

        Call(int way, int length) {
            this.way = way;
            this.length = length;
        }

        static Call of(int kind, int way, int length) {
            return switch (kind) {
                case 0 -> new Call(way, length);
                case 1 -> new Straight(way, length);
                case 2 -> new Back(way, length);
                case 3 -> new To(way, length);
                case 4 -> new Half(way, length);
                default -> new Slip(way, length);
            };
        }

        static Class<?> kindClass(int kind) {
            return of(kind, 0, 1).getClass();
        }

        int kind() {
            return 0;
        }

        Place end(Place from, Walk w) {
            return w.by(from, way + w.needle(), length);
        }

        int worth() {
            return length;
        }
    }

    static class Straight extends Call {
        Straight(int way, int length) {
            super(way, length);
        }

        @Override int kind() {
            return 1;
        }

        @Override Place end(Place from, Walk w) {
            return w.by(from, way, length);
        }

        @Override int worth() {
            return super.worth() + way;
        }
    }

    static class Back extends Call {
        Back(int way, int length) {
            super(way, length);
        }

        @Override int kind() {
            return 2;
        }

        @Override Place end(Place from, Walk w) {
            return w.beginning();
        }

        @Override int worth() {
            return 50;
        }
    }

    static final class To extends Straight {
        To(int way, int length) {
            super(way, length);
        }

        @Override int kind() {
            return 3;
        }

        @Override Place end(Place from, Walk w) {
            return length - 1 < w.state().stones.size() ? w.state().stones.get(length - 1) : super.end(from, w);
        }

        @Override int worth() {
            return 2 * super.worth();
        }
    }

    static final class Half extends Back {
        Half(int way, int length) {
            super(way, length);
        }

        @Override int kind() {
            return 4;
        }

        @Override Place end(Place from, Walk w) {
            Place b = super.end(from, w);
            return new Place((from.x + b.x) / 2, (from.y + b.y) / 2);
        }

        @Override int worth() {
            return super.worth() + length;
        }
    }

    static final class Slip extends Call {
        Slip(int way, int length) {
            super(way, length);
        }

        @Override int kind() {
            return 5;
        }

        @Override Place end(Place from, Walk w) {
            return w.by(from, way + w.needle() + 4, length);
        }

        @Override int worth() {
            return -super.worth();
        }
    }

    static final class Deed {
        Place beginning;
        int year;
        int slack;
        List<Call> calls = new ArrayList<>();

        Deed twin() {
            Deed d = new Deed();
            d.beginning = beginning;
            d.year = year;
            d.slack = slack;
            d.calls = new ArrayList<>(calls);
            return d;
        }
    }

    record Text(int key, List<String> words) {
        int atoms() {
            int n = 0;
            for (String w : words) {
                n += Character.isLetterOrDigit(w.charAt(0)) ? 1 : 0;
            }
            return n;
        }
    }

    static final class State {
        List<Place> stones = new ArrayList<>();
        List<Deed> deeds = new ArrayList<>();
        List<Text> texts = new ArrayList<>();
        int z = 1;

        State twin() {
            State s = new State();
            s.stones = new ArrayList<>(stones);
            for (Deed d : deeds) {
                s.deeds.add(d.twin());
            }
            s.texts = new ArrayList<>(texts);
            s.z = z;
            return s;
        }

        Text law(int key) {
            Text last = null;
            for (Text t : texts) {
                last = t.key == key ? t : last;
            }
            return last;
        }

        int give(int key, int deed, int without) {
            Text t = law(key);
            return t == null ? without : value(t.words, deeds.get(deed), deed);
        }

        int needle(int deed) {
            int r = give(0, deed, 0) % 8;
            return r < 0 ? r + 8 : r;
        }

        int chain(int deed) {
            int v = give(1, deed, deeds.get(deed).slack);
            return v > 9 ? 9 : v < -9 ? -9 : v;
        }

        int rank(int deed) {
            return give(2, deed, deeds.get(deed).year);
        }

        List<Place> corners(int deed) {
            return corners(deed, deeds.get(deed).calls, needle(deed), chain(deed));
        }

        List<Place> corners(int deed, List<Call> calls, int needle, int chain) {
            Place at = deeds.get(deed).beginning;
            Walk w = new Walk(this, at, needle, chain);
            List<Place> all = new ArrayList<>(List.of(at));
            for (Call c : calls) {
                at = c.end(at, w);
                all.add(at);
            }
            return all;
        }

        int gap(int deed, List<Call> calls, int needle, int chain) {
            List<Place> all = corners(deed, calls, needle, chain);
            return all.get(all.size() - 1).far(all.get(0));
        }

        int gap(int deed) {
            return gap(deed, deeds.get(deed).calls, needle(deed), chain(deed));
        }

        boolean holds(List<Place> corners, int x, int y) {
            boolean odd = false;
            for (int i = 0; i < corners.size(); i++) {
                Place a = corners.get(i);
                Place b = corners.get((i + 1) % corners.size());
                Place low = a.y <= b.y ? a : b;
                Place high = a.y <= b.y ? b : a;
                if (low.y <= y && high.y > y) {
                    // x of the side at y + 1/2 is low.x + run * (2 y + 1 - 2 low.y) / (2 rise), against x + 1/2
                    long rise = high.y - low.y;
                    long run = high.x - low.x;
                    long left = 2L * low.x * rise + run * (2L * y + 1 - 2L * low.y);
                    odd ^= left > (2L * x + 1) * rise;
                }
            }
            return odd;
        }

        /** Whose each cell is, -1 nobody's, at 30 x + y. */
        int[] owners() {
            int[] own = new int[900];
            java.util.Arrays.fill(own, -1);
            for (int d = 0; d < deeds.size(); d++) {
                List<Place> c = corners(d);
                for (int i = 0; i < 900; i++) {
                    boolean first = own[i] < 0 || rank(d) < rank(own[i]);
                    own[i] = holds(c, i / 30, i % 30) && first ? d : own[i];
                }
            }
            return own;
        }
    }

    private State s = new State();
    private State image;
    private String tape = "";
    private final List<Integer> waiting = new ArrayList<>();
    private final Integer[][] sheets = new Integer[4][];
    private final int[] sorts = new int[4];
    private final Object[] slots = new Object[5];

    private static boolean in(int v, int least, int most) {
        return least <= v && v <= most;
    }

    private static boolean cell(int c) {
        for (int x = 0; x < 30; x++) {
            if (in(c, 100 * x, 100 * x + 29)) {
                return true;
            }
        }
        return false;
    }

    private static boolean run(int r) {
        for (int w = 0; w < 8; w++) {
            if (in(r, 100 * w + 1, 100 * w + 20)) {
                return true;
            }
        }
        return false;
    }

    private boolean isDeed(int d) {
        return in(d, 0, s.deeds.size() - 1);
    }

    private boolean isStone(int n) {
        return in(n, 0, s.stones.size() - 1);
    }

    private boolean isCall(int d, int c) {
        return isDeed(d) && in(c, 0, s.deeds.get(d).calls.size() - 1);
    }

    public int stone(int x, int y) {
        if (!in(x, -99, 99) || !in(y, -99, 99)) {
            return BAD;
        }
        if (s.stones.size() == 8) {
            return FULL;
        }
        s.stones.add(new Place(x, y));
        return s.stones.size() - 1;
    }

    public int stoneTold(int stone, int what) {
        return !isStone(stone) ? BAD : what == 0 ? s.stones.get(stone).x : what == 1 ? s.stones.get(stone).y : BAD;
    }

    public int move(int stone, int x, int y) {
        if (!isStone(stone) || !in(x, -99, 99) || !in(y, -99, 99)) {
            return BAD;
        }
        return s.stones.set(stone, new Place(x, y)).far(new Place(x, y));
    }

    public int deed(int begins, int year, int slack) {
        if (!cell(begins) || !in(year, 0, 999) || !in(slack, -9, 9)) {
            return BAD;
        }
        if (s.deeds.size() == 4) {
            return FULL;
        }
        Deed d = new Deed();
        d.beginning = new Place(begins / 100, begins % 100);
        d.year = year;
        d.slack = slack;
        s.deeds.add(d);
        return s.deeds.size() - 1;
    }

    public int deedTold(int deed, int what) {
        if (!isDeed(deed) || !in(what, 0, 7)) {
            return BAD;
        }
        Deed d = s.deeds.get(deed);
        int[] all = {d.beginning.x, d.beginning.y, d.year, d.slack, d.calls.size(),
                s.needle(deed), s.chain(deed), s.rank(deed)};
        return all[what];
    }

    public int set(int deed, int what, int v) {
        if (!isDeed(deed) || !in(what, 0, 2)) {
            return BAD;
        }
        if (!(what == 0 ? in(v, 0, 999) : what == 1 ? in(v, -9, 9) : cell(v))) {
            return BAD;
        }
        Deed d = s.deeds.get(deed);
        int was = what == 0 ? d.year : what == 1 ? d.slack : 100 * d.beginning.x + d.beginning.y;
        d.year = what == 0 ? v : d.year;
        d.slack = what == 1 ? v : d.slack;
        d.beginning = what == 2 ? new Place(v / 100, v % 100) : d.beginning;
        return was;
    }

    public int call(int deed, int kind, int run) {
        if (!isDeed(deed) || !in(kind, 0, 5) || !run(run)) {
            return BAD;
        }
        List<Call> calls = s.deeds.get(deed).calls;
        if (calls.size() == 10) {
            return FULL;
        }
        calls.add(Call.of(kind, run / 100, run % 100));
        return calls.size() - 1;
    }

    public int told(int deed, int call, int what) {
        if (!isCall(deed, call) || !in(what, 0, 4)) {
            return BAD;
        }
        Call c = s.deeds.get(deed).calls.get(call);
        return new int[] {c.kind(), c.way, c.length, c.length * (100 + s.chain(deed)) / 100, c.worth()}[what];
    }

    public int as(int deed, int call, int kind) {
        if (!isCall(deed, call) || !in(kind, 0, 5)) {
            return BAD;
        }
        Call c = s.deeds.get(deed).calls.get(call);
        return Call.kindClass(kind).isInstance(c) ? c.length : KIND;
    }

    public int turns(int deed, int call, int kind) {
        if (!isCall(deed, call) || !in(kind, 0, 5)) {
            return BAD;
        }
        Call c = s.deeds.get(deed).calls.get(call);
        return s.deeds.get(deed).calls.set(call, Call.of(kind, c.way, c.length)).kind();
    }

    public int drop(int deed, int call) {
        if (!isCall(deed, call)) {
            return BAD;
        }
        s.deeds.get(deed).calls.remove(call);
        return s.deeds.get(deed).calls.size();
    }

    private int draw() {
        s.z = s.z * 1103515245 + 12345;
        return s.z >>> 8;
    }

    public int deal(int deed, int n) {
        if (!isDeed(deed) || !in(n, 1, 10)) {
            return BAD;
        }
        List<Call> calls = s.deeds.get(deed).calls;
        int came = 0;
        while (came < n && calls.size() < 10) {
            int kind = draw() % 3;
            int way = draw() % 8;
            calls.add(Call.of(kind, way, 1 + draw() % 12));
            came++;
        }
        return came;
    }

    public int seed(int v) {
        int was = s.z;
        s.z = v;
        return was;
    }

    public int corner(int deed, int i, int what) {
        if (!isDeed(deed) || i < 0 || !in(what, 0, 1)) {
            return BAD;
        }
        List<Place> c = s.corners(deed);
        return i >= c.size() ? NONE : what == 0 ? c.get(i).x : c.get(i).y;
    }

    public int gap(int deed) {
        return isDeed(deed) ? s.gap(deed) : BAD;
    }

    public int area(int deed) {
        if (!isDeed(deed)) {
            return BAD;
        }
        List<Place> c = s.corners(deed);
        int sum = 0;
        for (int i = 0; i < c.size(); i++) {
            Place a = c.get(i);
            Place b = c.get((i + 1) % c.size());
            sum += a.x * b.y - a.y * b.x;
        }
        return sum;
    }

    public int holds(int deed, int cell) {
        if (!isDeed(deed) || !cell(cell)) {
            return BAD;
        }
        return s.holds(s.corners(deed), cell / 100, cell % 100) ? 1 : 0;
    }

    public int field(int deed) {
        return isDeed(deed) ? both(deed, deed) : BAD;
    }

    public int over(int one, int other) {
        return isDeed(one) && isDeed(other) && one != other ? both(one, other) : BAD;
    }

    private int both(int one, int other) {
        int n = 0;
        List<Place> a = s.corners(one);
        List<Place> b = s.corners(other);
        for (int i = 0; i < 900; i++) {
            n += s.holds(a, i / 30, i % 30) && s.holds(b, i / 30, i % 30) ? 1 : 0;
        }
        return n;
    }

    public int whose(int cell) {
        if (!cell(cell)) {
            return BAD;
        }
        int own = s.owners()[cell / 100 * 30 + cell % 100];
        return own < 0 ? NONE : own;
    }

    public int owned(int deed) {
        if (deed != -1 && !isDeed(deed)) {
            return BAD;
        }
        int n = 0;
        for (int own : s.owners()) {
            n += own == deed ? 1 : 0;
        }
        return n;
    }

    private int[] bestSlip(int deed) {
        List<Call> calls = s.deeds.get(deed).calls;
        int[] best = {s.gap(deed), 0, NONE};
        for (int sort = 1; sort <= 3; sort++) {
            for (int i = 0; i < calls.size() - (sort == 3 ? 1 : 0); i++) {
                List<Call> other = new ArrayList<>(calls);
                if (sort == 1) {
                    other.remove(i);
                } else if (sort == 2) {
                    Call c = calls.get(i);
                    other.set(i, Call.of(c.kind(), (c.way + 4) % 8, c.length));
                } else {
                    other.set(i, calls.get(i + 1));
                    other.set(i + 1, calls.get(i));
                }
                int gap = s.gap(deed, other, s.needle(deed), s.chain(deed));
                best = gap < best[0] ? new int[] {gap, sort, i} : best;
            }
        }
        return best;
    }

    public int slip(int deed, int what) {
        return isDeed(deed) && in(what, 0, 2) ? bestSlip(deed)[what] : BAD;
    }

    public int best(int deed, int what) {
        if (!isDeed(deed) || !in(what, 0, 3)) {
            return BAD;
        }
        List<Call> calls = s.deeds.get(deed).calls;
        int least = what < 2 ? 0 : -9;
        int most = what < 2 ? 7 : 9;
        int best = NONE;
        int bestGap = 1 << 30;
        for (int v = least; v <= most; v++) {
            int gap = what < 2 ? s.gap(deed, calls, v, s.chain(deed)) : s.gap(deed, calls, s.needle(deed), v);
            if (gap < bestGap) {
                bestGap = gap;
                best = v;
            }
        }
        return what % 2 == 0 ? best : bestGap;
    }

    public int learn(int year) {
        if (!in(year, 0, 999)) {
            return BAD;
        }
        int best = NONE;
        int bestGap = 1 << 30;
        for (int v = 0; v < 8; v++) {
            int gaps = 0;
            boolean any = false;
            for (int d = 0; d < s.deeds.size(); d++) {
                if (s.deeds.get(d).year == year) {
                    any = true;
                    gaps += s.gap(d, s.deeds.get(d).calls, v, s.chain(d));
                }
            }
            if (any && gaps < bestGap) {
                bestGap = gaps;
                best = v;
            }
        }
        return best;
    }

    public int near(int stone, int what) {
        if (!isStone(stone) || !in(what, 0, 1)) {
            return BAD;
        }
        int best = NONE;
        int least = 1 << 30;
        for (int d = 0; d < s.deeds.size(); d++) {
            List<Place> c = s.corners(d);
            for (int i = 0; i < c.size(); i++) {
                int far = c.get(i).far(s.stones.get(stone));
                if (far < least) {
                    least = far;
                    best = 100 * d + i;
                }
            }
        }
        return best == NONE || what == 0 ? best : least;
    }

    public int would(int stone, int x, int y) {
        if (!isStone(stone) || !in(x, -99, 99) || !in(y, -99, 99)) {
            return BAD;
        }
        State other = s.twin();
        other.stones.set(stone, new Place(x, y));
        int[] a = s.owners();
        int[] b = other.owners();
        int n = 0;
        for (int i = 0; i < 900; i++) {
            n += a[i] != b[i] ? 1 : 0;
        }
        return n;
    }

    public int feed(int a, int b, int c) {
        if (tape.length() > 84) {
            return FULL;
        }
        StringBuilder t = new StringBuilder(tape);
        for (int v : new int[] {a, b, c}) {
            t.append((char) (v >> 24 & 255)).append((char) (v >> 16 & 255));
            t.append((char) (v >> 8 & 255)).append((char) (v & 255));
        }
        tape = t.toString();
        return tape.length();
    }

    public int trim(int n) {
        if (!in(n, 0, tape.length())) {
            return BAD;
        }
        tape = tape.substring(0, n);
        return n;
    }

    public int text() {
        String t = tape;
        tape = "";
        List<String> words = new ArrayList<>();
        int fault = fault(t, words);
        if (fault >= 0) {
            return -100 - fault;
        }
        if (s.texts.size() == 14) {
            return FULL;
        }
        s.texts.add(new Text(keyOf(words.get(0)), words.subList(1, words.size())));
        return s.texts.size() - 1;
    }

    private static int keyOf(String word) {
        return List.of("needle", "chain", "first").indexOf(word);
    }

    private static int sort(char c) {
        return c >= 'a' && c <= 'z' ? 1 : c >= '0' && c <= '9' ? 2 : 0;
    }

    /** The place of the fault, or -1; by a state machine: what may come, what stands open. */
    private static int fault(String t, List<String> words) {
        List<int[]> open = new ArrayList<>(); // of each ( : {a comparison stood in its test, the ! right ahead of it}
        boolean piece = true;
        int compared = 0;
        int notsHere = 0;
        int notsAround = 0;
        int key = -1;
        int i = 0;
        while (true) {
            int from = i;
            while (i < t.length() && t.charAt(i) == ' ') {
                i++;
            }
            if (i == t.length()) {
                return key >= 0 && !piece && open.isEmpty() ? -1 : i;
            }
            int start = i;
            int sort = sort(t.charAt(i));
            i++;
            while (sort > 0 && i < t.length() && sort(t.charAt(i)) == sort) {
                i++;
            }
            String w = t.substring(start, i);
            boolean behind = start == from && start > 0 && sort > 0 && sort(t.charAt(start - 1)) > 0;
            if (behind) {
                return start;
            }
            words.add(w);
            if (words.size() == 1) {
                key = keyOf(w);
                if (key < 0) {
                    return start;
                }
            } else if (piece) {
                boolean name = List.of("y", "ys", "ync").get(key).contains(w) && w.length() == 1;
                if (name || sort == 2 && w.length() <= 4) {
                    piece = false;
                    notsHere = 0;
                } else if (w.equals("!") && notsHere + notsAround < 8) {
                    notsHere++;
                } else if (w.equals("(") && open.size() < 8) {
                    open.add(new int[] {compared, notsHere});
                    notsAround += notsHere;
                    notsHere = 0;
                    compared = 0;
                } else {
                    return start;
                }
            } else if (w.equals(")") && !open.isEmpty()) {
                int[] was = open.remove(open.size() - 1);
                compared = was[0];
                notsAround -= was[1];
            } else if ("|&".contains(w)) {
                compared = 0;
                piece = true;
            } else if ("<=>".contains(w) && compared == 0) {
                compared = 1;
                piece = true;
            } else if ("+-*/".contains(w)) {
                piece = true;
            } else {
                return start;
            }
        }
    }

    /** The value of words: split at the last of the loosest signs that stand in no parentheses. */
    static int value(List<String> w, Deed d, int number) {
        for (String signs : new String[] {"|", "&", "<=>", "+-", "*/"}) {
            int depth = 0;
            for (int i = w.size() - 1; i > 0; i--) {
                String at = w.get(i);
                depth += at.equals(")") ? 1 : at.equals("(") ? -1 : 0;
                if (depth == 0 && signs.contains(at)) {
                    int a = value(w.subList(0, i), d, number);
                    int b = value(w.subList(i + 1, w.size()), d, number);
                    return switch (at.charAt(0)) {
                        case '|' -> a != 0 || b != 0 ? 1 : 0;
                        case '&' -> a != 0 && b != 0 ? 1 : 0;
                        case '<' -> a < b ? 1 : 0;
                        case '=' -> a == b ? 1 : 0;
                        case '>' -> a > b ? 1 : 0;
                        case '+' -> a + b;
                        case '-' -> a - b;
                        case '*' -> a * b;
                        default -> b == 0 ? 0 : a / b;
                    };
                }
            }
        }
        return switch (w.get(0)) {
            case "!" -> value(w.subList(1, w.size()), d, number) == 0 ? 1 : 0;
            case "(" -> value(w.subList(1, w.size() - 1), d, number);
            case "y" -> d.year;
            case "s" -> d.slack;
            case "n" -> number;
            case "c" -> d.calls.size();
            default -> Integer.parseInt(w.get(0));
        };
    }

    public int textTold(int text, int what) {
        if (!in(text, 0, s.texts.size() - 1) || !in(what, 0, 1)) {
            return BAD;
        }
        return what == 0 ? s.texts.get(text).key : s.texts.get(text).atoms();
    }

    public int why(int key) {
        if (!in(key, 0, 2)) {
            return BAD;
        }
        Text law = s.law(key);
        int last = NONE;
        for (int i = 0; i < s.texts.size(); i++) {
            last = s.texts.get(i) == law ? i : last;
        }
        return last;
    }

    public int sheet(int sheet, int sort, int n) {
        if (!in(sheet, 0, 3) || !in(sort, -1, 1) || sort >= 0 && n > 24) {
            return BAD;
        }
        if (sort >= 0 && n < 0) {
            return SIZE;
        }
        sheets[sheet] = sort < 0 ? null : new Integer[n];
        sorts[sheet] = sort;
        for (int i = 0; sort >= 0 && i < n; i++) {
            sheets[sheet][i] = 0;
        }
        return sort < 0 ? 0 : n;
    }

    public int mark(int sheet, int place, int v) {
        if (!in(sheet, 0, 3)) {
            return BAD;
        }
        if (sheets[sheet] == null) {
            return NOTHING;
        }
        if (!in(place, 0, sheets[sheet].length - 1)) {
            return INDEX;
        }
        if (sorts[sheet] == 0) {
            if (v == NONE) {
                return KIND;
            }
            sheets[sheet][place] = (int) (short) v;
            return 1;
        }
        if (v != NONE && !in(v, -99999, 99999)) {
            return BAD;
        }
        sheets[sheet][place] = v == NONE ? null : v;
        return 1;
    }

    public int pour(int sheet, int deed) {
        if (!in(sheet, 0, 3) || !isDeed(deed)) {
            return BAD;
        }
        if (sheets[sheet] == null) {
            return NOTHING;
        }
        List<Call> come = new ArrayList<>();
        for (Integer v : sheets[sheet]) {
            if (v == null || !run(v)) {
                break;
            }
            come.add(Call.of(0, v / 100, v % 100));
        }
        if (s.deeds.get(deed).calls.size() + come.size() > 10) {
            return FULL;
        }
        s.deeds.get(deed).calls.addAll(come);
        return come.size();
    }

    public int reads(int sheet, int deed) {
        if (!in(sheet, 0, 3) || !isDeed(deed)) {
            return BAD;
        }
        if (sheets[sheet] == null) {
            return NOTHING;
        }
        List<Place> c = s.corners(deed);
        for (int i = 0; i < sheets[sheet].length; i++) {
            Integer v = sheets[sheet][i];
            if (v == null) {
                continue;
            }
            if (i / 2 >= c.size() || v != (i % 2 == 0 ? c.get(i / 2).x : c.get(i / 2).y)) {
                return i;
            }
        }
        return NONE;
    }

    public int copy(int from, int place, int to, int at, int many) {
        if (!in(from, 0, 3) || !in(to, 0, 3)) {
            return BAD;
        }
        if (sheets[from] == null || sheets[to] == null) {
            return NOTHING;
        }
        if (sorts[from] != sorts[to]) {
            return KIND;
        }
        boolean low = place < 0 || at < 0 || many < 0;
        if (low || (long) place + many > sheets[from].length || (long) at + many > sheets[to].length) {
            return INDEX;
        }
        Integer[] were = sheets[from].clone();
        for (int i = 0; i < many; i++) {
            sheets[to][at + i] = were[place + i];
        }
        return many;
    }

    private static int thing(Object held) {
        return held == null ? 0 : held instanceof Call ? 1 : held instanceof Integer[] ? 2 : 3;
    }

    public int lay(int slot, int thing, int k) {
        if (!in(slot, 0, 4) || !in(thing, 0, 3)) {
            return BAD;
        }
        if (thing == 1 && (k < 0 || !isCall(k / 100, k % 100)) || thing == 2 && !in(k, 0, 3)) {
            return BAD;
        }
        if (thing == 2 && sheets[k] == null) {
            return NOTHING;
        }
        int was = thing(slots[slot]);
        slots[slot] = switch (thing) {
            case 0 -> null;
            case 1 -> s.deeds.get(k / 100).calls.get(k % 100);
            case 2 -> sheets[k].clone();
            default -> k;
        };
        return was;
    }

    public int ask(int slot, int kind) {
        if (!in(slot, 0, 4) || !in(kind, 0, 5)) {
            return BAD;
        }
        if (slots[slot] == null) {
            return NOTHING;
        }
        return slots[slot] instanceof Call c && Call.kindClass(kind).isInstance(c) ? c.worth() : KIND;
    }

    public int item(int slot, int place) {
        if (!in(slot, 0, 4)) {
            return BAD;
        }
        if (slots[slot] == null) {
            return NOTHING;
        }
        if (!(slots[slot] instanceof Integer[] row)) {
            return KIND;
        }
        if (!in(place, 0, row.length - 1)) {
            return INDEX;
        }
        return row[place] == null ? KIND : row[place];
    }

    public int rest(int slot, int n) {
        if (!in(slot, 0, 4)) {
            return BAD;
        }
        if (slots[slot] == null) {
            return NOTHING;
        }
        if (!(slots[slot] instanceof Integer v)) {
            return KIND;
        }
        return n == 0 ? NO : (int) ((long) v % n);
    }

    public int tell(int v) {
        if (waiting.size() == 60) {
            return FULL;
        }
        waiting.add(v);
        return waiting.size();
    }

    public int check(int deed) {
        List<Integer> said = new ArrayList<>(waiting);
        waiting.clear();
        if (image == null) {
            return NO;
        }
        if (!in(deed, 0, image.deeds.size() - 1)) {
            return BAD;
        }
        List<Integer> due = new ArrayList<>();
        for (Place p : image.corners(deed).subList(1, image.deeds.get(deed).calls.size() + 1)) {
            due.add(p.x);
            due.add(p.y);
        }
        if (said.equals(due)) {
            return 0;
        }
        int right = 0;
        while (right < said.size() && right < due.size() && said.get(right).equals(due.get(right))) {
            right++;
        }
        return 1 + right;
    }

    public int keep() {
        image = s.twin();
        return s.deeds.size();
    }

    public int back() {
        if (image == null) {
            return NO;
        }
        s = image.twin();
        return s.deeds.size();
    }

    public int count(int what) {
        if (!in(what, 0, 6)) {
            return BAD;
        }
        int calls = 0;
        for (Deed d : s.deeds) {
            calls += d.calls.size();
        }
        int[] all = {s.stones.size(), s.deeds.size(), calls, s.texts.size(), waiting.size(), tape.length(), s.z};
        return all[what];
    }
}
