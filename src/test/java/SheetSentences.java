import java.util.ArrayList;
import java.util.List;

/** The sentences on sheets, slots, rows and images (Terms 5, promises 33 to 46): a test for each. */
final class SheetSentences {
    private static final int BAD = Oak.BAD, NO = Oak.NO, FULL = Oak.FULL, NONE = Oak.NONE;
    private static final int NOTHING = Oak.NOTHING, KIND = Oak.KIND, INDEX = Oak.INDEX, SIZE = Oak.SIZE;
    private static final int SHORTS = 0, FLOATS = 1;

    private SheetSentences() {
    }

    static void run() {
        Says.in("Terms 5");
        sheets();
        slots();
        images();
        sheet();
        mark();
        pour();
        reads();
        copy();
        lay();
        ask();
        itemAndRest();
        tellAndCheck();
        keepAndBack();
        count();
    }

    /** A row of a sort as the sheet 0 of a new object. */
    private static OakDeeds row(int sort, int... places) {
        OakDeeds x = new OakDeeds();
        putRow(x, 0, sort, places);
        return x;
    }

    private static void putRow(OakDeeds x, int sheet, int sort, int... places) {
        x.sheet(sheet, sort, places.length);
        for (int i = 0; i < places.length; i++) {
            x.mark(sheet, i, places[i]);
        }
    }

    /** What stands at a place of a sheet, by way of the slot 4. */
    private static int at(OakDeeds x, int sheet, int place) {
        x.lay(4, 2, sheet);
        return x.item(4, place);
    }

    private static void sheets() {
        Says.says("SHEETS 0 .. 3 are rows of shorts (sort 0) or floats (1; whole numbers), with 0 to 24 places, or MISSING (at first).");
        for (int sheet = -1; sheet <= 4; sheet++) {
            boolean is = sheet >= 0 && sheet <= 3;
            OakDeeds x = new OakDeeds();
            Says.due("sheet " + sheet + " at first", x.mark(sheet, 0, 0), is ? NOTHING : BAD);
            Says.due("sheet " + sheet + " of shorts", x.sheet(sheet, SHORTS, 1), is ? 1 : BAD);
            Says.due("sheet " + sheet + " then", x.mark(sheet, 0, 0), is ? 1 : BAD);
            Says.due("sheet " + sheet + " missing", x.sheet(sheet, -1, 0), is ? 0 : BAD);
        }
        for (int n = -2; n <= 26; n++) {
            int due = n < 0 ? SIZE : n > 24 ? BAD : n;
            for (int sort = SHORTS; sort <= FLOATS; sort++) {
                OakDeeds x = new OakDeeds();
                Says.due(n + " places", x.sheet(0, sort, n), due);
                boolean is = n >= 0 && n <= 24;
                Says.due("the last of them", x.mark(0, n - 1, 7), !is ? NOTHING : n == 0 ? INDEX : 1);
                Says.due("behind the last", x.mark(0, n, 7), is ? INDEX : NOTHING);
            }
        }
        int[] shorts = {0, 1, -1, 32767, -32768, 12345};
        int[] floats = {0, 1, -1, 99999, -99999, 32768, -32769, 77777};
        OakDeeds x = row(SHORTS, shorts);
        putRow(x, 1, FLOATS, floats);
        for (int i = 0; i < shorts.length; i++) {
            Says.due("of shorts, place " + i, at(x, 0, i), shorts[i]);
        }
        for (int i = 0; i < floats.length; i++) {
            Says.due("of floats, place " + i, at(x, 1, i), floats[i]);
        }

        Says.says("A place of floats may be NO NUMBER.");
        OakDeeds f = row(FLOATS, 5, NONE, 6);
        Says.due("no number", at(f, 0, 1), KIND);
        Says.due("the place ahead", at(f, 0, 0), 5);
        Says.due("the place behind", at(f, 0, 2), 6);
        f.mark(0, 1, -3);
        Says.due("a number again", at(f, 0, 1), -3);
        Says.due("of shorts none", row(SHORTS, 5).mark(0, 0, NONE), KIND);
    }

    private static void slots() {
        Says.says("SLOTS 0 .. 4 each hold nothing (at first), a CALL (as it is then, for good), a SHEET (a row of its own, as it was then), or a number.");
        OakDeeds x = new OakDeeds();
        for (int slot = -1; slot <= 5; slot++) {
            boolean is = slot >= 0 && slot <= 4;
            Says.due("slot " + slot + " at first", x.item(slot, 0), is ? NOTHING : BAD);
            Says.due("slot " + slot + " held", x.lay(slot, 3, 100 + slot), is ? 0 : BAD);
        }
        for (int slot = 0; slot < 5; slot++) {
            Says.due("each its own number", x.rest(slot, 1000), 100 + slot);
        }
        OakDeeds c = Oak.oneDeed(0, 3, 705);
        c.keep();
        c.lay(0, 1, 0);
        c.turns(0, 0, 5);
        Says.due("a call that has turned", c.ask(0, 3), 24);
        c.lay(1, 1, 0);
        Says.due("as it is then", c.ask(1, 5), -5);
        Says.due("not as it was", c.ask(1, 3), KIND);
        c.drop(0, 0);
        Says.due("a call that is gone", c.ask(0, 3), 24);
        c.back();
        c.turns(0, 0, 2);
        Says.due("as it was, in another image of the land", c.ask(1, 5), -5);
        OakDeeds s = row(FLOATS, 7, NONE, 8);
        s.lay(0, 2, 0);
        s.mark(0, 0, 9);
        s.mark(0, 1, 9);
        Says.due("a row of its own", s.item(0, 0), 7);
        Says.due("no number in it", s.item(0, 1), KIND);
        s.lay(1, 2, 0);
        s.sheet(0, SHORTS, 1);
        Says.due("as long as it was", s.item(0, 2), 8);
        s.sheet(0, -1, 0);
        Says.due("of a sheet that is missing", s.item(1, 0), 9);
        Says.due("of a sheet that is missing", s.item(1, 3), INDEX);
        for (int number : new int[] {0, -1, Oak.LOW, Oak.HIGH, NONE}) {
            s.lay(2, 3, number);
            Says.due("a number", s.rest(2, 1000003), number % 1000003);
        }

        Says.says("FINDINGS: NOTHING: a SHEET is MISSING, a SLOT holds nothing; INDEX: there is no such place; SIZE: a number of places is below 0; KIND: it is none (of a KIND, a number, or another thing).");
        OakDeeds w = Oak.world();
        Says.due("a missing sheet", w.mark(2, 0, 0), -1000000011);
        Says.due("a slot with nothing", w.ask(3, 0), -1000000011);
        Says.due("no such place of a sheet", w.mark(0, 4, 0), -1000000013);
        Says.due("no such place of an empty sheet", w.mark(3, 0, 0), -1000000013);
        Says.due("no such place in a slot", w.item(1, 3), -1000000013);
        Says.due("places below 0", w.sheet(0, 0, -1), -1000000014);
        Says.due("places below 0", w.sheet(0, 1, Oak.LOW), -1000000014);
        Says.due("none of a kind", w.as(0, 0, 1), -1000000012);
        Says.due("no number", w.item(1, 1), -1000000012);
        Says.due("no sheet", w.item(2, 0), -1000000012);
        Says.due("no call", w.ask(1, 0), -1000000012);
    }

    private static void images() {
        Says.says("AN IMAGE keeps all but SHEETS, SLOTS, numbers that wait, THE TAPE; all can become as it is (again and again).");
        List<Integer> kept = Oak.image(Oak.world());
        for (int times = 1; times <= 3; times++) {
            OakDeeds x = Oak.world();
            for (int i = 0; i < times; i++) {
                x.back();
                x.stone(i, i);
                x.move(0, -i, i);
                x.deed(1500 + i, i, i);
                x.set(0, 0, 500 + i);
                x.set(0, 1, i);
                x.set(0, 2, i);
                x.turns(0, 0, 5);
                x.drop(1, 0);
                x.deal(1, 3);
                Oak.text(x, "needle " + i);
            }
            Says.due("as it is, " + times, Oak.image(x).equals(kept), true);
        }
        OakDeeds y = Oak.world();
        y.back();
        Says.due("slots and sheets are not kept", Oak.slotsAndSheets(y).equals(Oak.slotsAndSheets(Oak.world())), true);
        OakDeeds z = Oak.world();
        z.back();
        Says.due("numbers that wait are not kept", z.count(4), 12);
        Says.due("the tape is not kept", z.count(5), 11);
        Says.due("the tape is a text", z.text(), 2);
        OakDeeds told = Oak.oneDeed(0);
        told.set(0, 0, 5);
        told.keep();
        Oak.text(told, "first !!y");
        told.back();
        Says.due("a text in place of one that is no more", Oak.text(told, "first y"), 0);
        Says.due("nothing of that is left", told.deedTold(0, 7), 5);
        OakDeeds full = fullLand();
        full.keep();
        for (int i = 0; i < 8; i++) {
            full.move(i, 99, 99);
        }
        for (int d = 0; d < 4; d++) {
            full.drop(d, 9);
            full.set(d, 2, 2929);
        }
        Says.due("all of what is full", Oak.image(full).equals(withFirst(4, Oak.land(fullLand()))), true);

        Says.says("THE CORNERS TOLD of a DEED: x and y of CORNER 1 and the next ones, by THE IMAGE.");
        OakDeeds c = imageOf(2, 3);
        tellAll(c, 15, 11, 20, 16);
        Says.due("corner 1 and the next one", c.check(0), 0);
        tellAll(c, 10, 11, 15, 11, 20, 16);
        Says.due("not corner 0", c.check(0), 1);
        c.set(0, 2, 0);
        c.move(0, 0, 0);
        c.drop(0, 0);
        Oak.text(c, "needle 4");
        tellAll(c, 15, 11, 20, 16);
        Says.due("by the image still", c.check(0), 0);
        c.keep();
        tellAll(c, 15, 11, 20, 16);
        Says.due("by a new image", c.check(0), 1);
        OakDeeds law = Oak.oneDeed(1010, 0, 10);
        Oak.text(law, "needle 2");
        Oak.text(law, "chain 0-5");
        law.keep();
        Oak.text(law, "needle 0");
        Oak.text(law, "chain 5");
        tellAll(law, 10, 19);
        Says.due("by the texts of the image", law.check(0), 0);
    }

    private static OakDeeds fullLand() {
        OakDeeds x = new OakDeeds();
        TermSentences.fillStones(x);
        TermSentences.fillDeeds(x);
        for (int d = 0; d < 4; d++) {
            x.deal(d, 10);
        }
        return x;
    }

    private static List<Integer> withFirst(int first, List<Integer> others) {
        List<Integer> all = new ArrayList<>(others);
        all.add(0, first);
        return all;
    }

    /** An image of deeds that begin at 10, 11, the first with two calls: to 15, 11 and to a stone at 20, 16. */
    private static OakDeeds imageOf(int deeds, int stones) {
        OakDeeds x = new OakDeeds();
        for (int i = 0; i < stones; i++) {
            x.stone(20 + i, 16);
        }
        for (int i = 0; i < deeds; i++) {
            x.deed(1011, 0, 0);
        }
        Oak.addCalls(x, 0, 1, 5, 3, 1);
        x.keep();
        return x;
    }

    private static void tellAll(OakDeeds x, int... numbers) {
        for (int number : numbers) {
            x.tell(number);
        }
    }

    private static void sheet() {
        Says.in("Promise 33");
        Says.says("`int sheet(int sheet, int sort, int n)`: A SHEET becomes a row of n places of a sort, all 0 (sort -1: MISSING, n any): n (0).");
        for (int sort = SHORTS; sort <= FLOATS; sort++) {
            OakDeeds x = new OakDeeds();
            Says.due("24 places", x.sheet(3, sort, 24), 24);
            for (int i = 0; i < 24; i++) {
                x.mark(3, i, 5 + i);
            }
            Says.due("2 places", x.sheet(3, sort, 2), 2);
            Says.due("0 again", at(x, 3, 0), 0);
            Says.due("no more than 2", at(x, 3, 2), INDEX);
            Says.due("24 places again", x.sheet(3, sort, 24), 24);
            for (int i = 0; i < 24; i++) {
                Says.due("all 0", at(x, 3, i), 0);
            }
            Says.due("none", x.sheet(3, sort, 0), 0);
            Says.due("no place", x.mark(3, 0, 0), INDEX);
        }
        OakDeeds s = new OakDeeds();
        s.sheet(0, SHORTS, 1);
        s.sheet(1, FLOATS, 1);
        Says.due("of shorts", s.mark(0, 0, NONE), KIND);
        Says.due("of floats", s.mark(1, 0, NONE), 1);
        for (int n : new int[] {0, 1, 24, 25, -1, 99, Oak.LOW, Oak.HIGH}) {
            s.sheet(2, FLOATS, 3);
            Says.due("missing, n " + n, s.sheet(2, -1, n), 0);
            Says.due("missing then", s.mark(2, 0, 0), NOTHING);
        }
        Says.due("missing already", s.sheet(2, -1, 5), 0);
        Says.due("others stay", s.mark(0, 0, 1), 1);

        Says.says("BAD: sheet, sort, n above 24; SIZE.");
        for (int sheet : Says.outside(0, 3)) {
            Says.refused("sheet " + sheet, y -> y.sheet(sheet, 0, 1), BAD);
            Says.refused("sheet " + sheet + ", missing", y -> y.sheet(sheet, -1, 1), BAD);
            Says.refused("sheet " + sheet + ", below 0", y -> y.sheet(sheet, 0, -1), BAD);
        }
        for (int sort : Says.outside(-1, 1)) {
            Says.refused("sort " + sort, y -> y.sheet(0, sort, 1), BAD);
            Says.refused("sort " + sort + ", below 0", y -> y.sheet(0, sort, -1), BAD);
        }
        for (int n : new int[] {25, 26, 256, 65536 + 4, Oak.HIGH}) {
            Says.refused(n + " shorts", y -> y.sheet(0, 0, n), BAD);
            Says.refused(n + " floats", y -> y.sheet(2, 1, n), BAD);
        }
        for (int n : new int[] {-1, -2, -24, -65536, Oak.LOW}) {
            Says.refused(n + " shorts", y -> y.sheet(0, 0, n), SIZE);
            Says.refused(n + " floats", y -> y.sheet(2, 1, n), SIZE);
        }
    }

    private static void mark() {
        Says.in("Promise 34");
        Says.says("`int mark(int sheet, int place, int v)`: A place of a SHEET becomes v (of shorts its lowest 16 bits; of floats v, -99999 .. 99999; NONE: NO NUMBER): 1.");
        for (int v : new int[] {0, 5, -5, 32767, 32768, 65535, 65536, -32768, -32769, 98304, Oak.LOW, Oak.HIGH,
            Oak.LOW + 5, BAD, 100000}) {
            OakDeeds x = row(SHORTS, 1, 2, 3);
            Says.due("shorts: " + v, x.mark(0, 1, v), 1);
            Says.due("its lowest 16 bits", at(x, 0, 1), (short) v);
            Says.due("the place ahead stays", at(x, 0, 0), 1);
            Says.due("the place behind stays", at(x, 0, 2), 3);
        }
        for (int v : new int[] {0, 5, -5, 32768, -32769, 65536, 99999, -99999, 99998, 16777}) {
            OakDeeds x = row(FLOATS, 1, 2, 3);
            Says.due("floats: " + v, x.mark(0, 1, v), 1);
            Says.due("v", at(x, 0, 1), v);
            Says.due("the place ahead stays", at(x, 0, 0), 1);
        }
        OakDeeds n = row(FLOATS, 1, 2, 3);
        Says.due("no number", n.mark(0, 2, NONE), 1);
        Says.due("no number then", at(n, 0, 2), KIND);

        Says.says("BAD: sheet; NOTHING; INDEX; KIND: NONE in a row of shorts; BAD: v of floats.");
        for (int sheet : Says.outside(0, 3)) {
            Says.refused("sheet " + sheet, y -> y.mark(sheet, 99, NONE), BAD);
        }
        for (int v : new int[] {0, NONE, 100000}) {
            Says.refused("a missing sheet, v " + v, y -> y.mark(2, 99, v), NOTHING);
            Says.refused("an empty sheet, v " + v, y -> y.mark(3, 0, v), INDEX);
            for (int place : Says.outside(0, 3)) {
                Says.refused("shorts, place " + place + ", v " + v, y -> y.mark(0, place, v), INDEX);
            }
            for (int place : Says.outside(0, 2)) {
                Says.refused("floats, place " + place + ", v " + v, y -> y.mark(1, place, v), INDEX);
            }
        }
        for (int place = 0; place < 4; place++) {
            int at = place;
            Says.refused("no number in shorts", y -> y.mark(0, at, NONE), KIND);
        }
        for (int v : new int[] {100000, -100000, 100255, Oak.LOW, Oak.HIGH, BAD, KIND, NONE - 1, NONE + 1}) {
            Says.refused("floats: " + v, y -> y.mark(1, 0, v), BAD);
        }
    }

    private static void pour() {
        Says.in("Promise 35");
        Says.says("`int pour(int sheet, int deed)`: CALLS of a DEED (KIND 0) come from a SHEET, place by place from 0 on (100 times WAY, and LENGTH), up to the first that is NO NUMBER or no such CALL: how many came.");
        int[] runs = {1, 20, 101, 120, 310, 405, 517, 613, 701, 720};
        for (int sort = SHORTS; sort <= FLOATS; sort++) {
            OakDeeds x = row(sort, runs);
            x.deed(0, 0, 0);
            x.deed(0, 0, 0);
            Says.due("ten", x.pour(0, 1), 10);
            Says.due("none to the other", x.deedTold(0, 4), 0);
            for (int i = 0; i < 10; i++) {
                Says.due("kind of " + i, x.told(1, i, 0), 0);
                Says.due("way of " + i, x.told(1, i, 1), runs[i] / 100);
                Says.due("length of " + i, x.told(1, i, 2), runs[i] % 100);
            }
            Says.due("the sheet stays", at(x, 0, 9), 720);
        }
        int[] none = {0, 21, 99, 100, 121, 199, 700, 721, 799, 800, 801, 820, -1, -101, -120, 32767, -32768};
        for (int no : none) {
            for (int sort = SHORTS; sort <= FLOATS; sort++) {
                OakDeeds x = row(sort, 305, 306, no, 307);
                x.deed(0, 0, 0);
                Says.due("up to " + no, x.pour(0, 0), 2);
                Says.due("calls then", x.deedTold(0, 4), 2);
            }
        }
        for (int no : new int[] {NONE, 99999, -99999, 65537}) {
            OakDeeds x = row(FLOATS, 305, 306, no, 307);
            x.deed(0, 0, 0);
            Says.due("up to " + no, x.pour(0, 0), 2);
        }
        OakDeeds behind = row(SHORTS, 107);
        behind.deed(0, 0, 0);
        behind.call(0, 5, 720);
        Says.due("one more", behind.pour(0, 0), 1);
        Says.due("behind those that are there", behind.told(0, 1, 2), 7);
        Says.due("none comes from an empty one", fromRow(SHORTS), 0);
        Says.due("none comes from no number", fromRow(FLOATS, NONE, 5), 0);
        Says.due("none comes from 0", fromRow(SHORTS, 0, 5), 0);
        Says.due("ten ahead of what is no call, of 24", fromRow(FLOATS, 1, 1, 1, 1, 1, 1, 1, 1, 1, 1, NONE, 1, 1, 1, 1, 1, 1,
                1, 1, 1, 1, 1, 1, 1), 10);

        Says.says("BAD: sheet, deed; NOTHING; FULL: they have no room (none comes then).");
        for (int sheet : Says.outside(0, 3)) {
            Says.refused("sheet " + sheet, y -> y.pour(sheet, 0), BAD);
        }
        for (int deed : Says.outside(0, 1)) {
            Says.refused("deed " + deed, y -> y.pour(0, deed), BAD);
            Says.refused("a missing sheet, deed " + deed, y -> y.pour(2, deed), BAD);
        }
        Says.refused("a missing sheet", y -> y.pour(2, 0), NOTHING);
        Says.refusedAfter("a missing sheet, no room", y -> TermSentences.fillCalls(y, 0), y -> y.pour(2, 0), NOTHING);
        // The sheet 0 has four calls, the deed 0 six: there is room until one more comes.
        Says.due("just room for four", Oak.world().pour(0, 0), 4);
        Says.refusedAfter("four to seven", y -> y.call(0, 0, 1), y -> y.pour(0, 0), FULL);
        Says.refusedAfter("four to ten", y -> TermSentences.fillCalls(y, 0), y -> y.pour(0, 0), FULL);
        for (int has = 0; has <= 10; has++) {
            for (int many = 1; many <= 12; many++) {
                OakDeeds x = row(SHORTS, new int[many]);
                x.deed(0, 0, 0);
                for (int i = 0; i < many; i++) {
                    x.mark(0, i, 205);
                }
                for (int i = 0; i < has; i++) {
                    x.call(0, 1, 1);
                }
                boolean room = has + many <= 10;
                Says.due(many + " to " + has, x.pour(0, 0), room ? many : FULL);
                Says.due("calls then", x.deedTold(0, 4), room ? has + many : has);
            }
        }
    }

    private static int fromRow(int sort, int... places) {
        OakDeeds x = row(sort, places);
        x.deed(0, 0, 0);
        return x.pour(0, 0);
    }

    private static void reads() {
        Says.in("Promise 36");
        Says.says("`int reads(int sheet, int deed)`: The first place (of numbers alone) at which a SHEET is not what two CORNERS tell: places 2 i, 2 i and 1 are x, y of CORNER i of a DEED (beyond the last CORNER all that are numbers are not).");
        int[] corners = {10, 11, 15, 11, 15, 4, 8, -3};
        for (int wrong = 0; wrong <= 8; wrong++) {
            for (int sort = SHORTS; sort <= FLOATS; sort++) {
                OakDeeds x = row(sort, corners);
                fourCorners(x);
                if (wrong < 8) {
                    x.mark(0, wrong, corners[wrong] + 1);
                    x.mark(0, 7, -corners[7]);
                }
                Says.due("wrong at " + wrong, x.reads(0, 1), wrong < 8 ? wrong : NONE);
            }
        }
        for (int places = 0; places <= 10; places++) {
            OakDeeds x = new OakDeeds();
            x.sheet(0, FLOATS, places);
            fourCorners(x);
            for (int i = 0; i < places; i++) {
                x.mark(0, i, i < 8 ? corners[i] : 0);
            }
            Says.due(places + " places", x.reads(0, 1), places <= 8 ? NONE : 8);
        }
        OakDeeds no = row(FLOATS, NONE, 11, NONE, 11, 15, NONE, 7, NONE, NONE, NONE, NONE, 0);
        fourCorners(no);
        Says.due("no numbers are left out", no.reads(0, 1), 6);
        no.mark(0, 6, 8);
        Says.due("a number beyond the last corner", no.reads(0, 1), 11);
        no.mark(0, 11, NONE);
        Says.due("no number beyond the last corner", no.reads(0, 1), NONE);
        OakDeeds ten = Oak.oneDeed(0, 2, 1, 2, 1, 2, 1, 2, 1, 2, 1, 2, 1, 2, 1, 2, 1, 2, 1, 2, 1);
        ten.sheet(0, SHORTS, 22);
        Says.due("eleven corners", ten.reads(0, 0), NONE);
        ten.sheet(0, SHORTS, 24);
        Says.due("beyond eleven corners", ten.reads(0, 0), 22);
        OakDeeds none = Oak.oneDeed(0);
        none.sheet(0, SHORTS, 24);
        Says.due("beyond one corner", none.reads(0, 0), 2);

        Says.says("BAD; NOTHING; NONE: there is none.");
        for (int sheet : Says.outside(0, 3)) {
            Says.refused("sheet " + sheet, y -> y.reads(sheet, 0), BAD);
        }
        for (int deed : Says.outside(0, 1)) {
            Says.refused("deed " + deed, y -> y.reads(0, deed), BAD);
            Says.refused("a missing sheet, deed " + deed, y -> y.reads(2, deed), BAD);
        }
        Says.refused("a missing sheet", y -> y.reads(2, 0), NOTHING);
        Says.refused("an empty sheet", y -> y.reads(3, 0), NONE);
        OakDeeds right = row(SHORTS, 10, 11);
        fourCorners(right);
        Says.due("all are right", right.reads(0, 1), NONE);
    }

    /** The deed 1 with the corners 10, 11; 15, 11; 15, 4; 8, -3. */
    private static void fourCorners(OakDeeds x) {
        x.deed(0, 0, 0);
        x.deed(1011, 0, 0);
        Oak.addCalls(x, 1, 1, 5, 1, 607, 1, 507);
    }

    private static void copy() {
        Says.in("Promise 37");
        Says.says("`int copy(int from, int place, int to, int at, int many)`: So many places of a SHEET come to another one (or the same), as they were: many.");
        for (int sort = SHORTS; sort <= FLOATS; sort++) {
            for (int from = 0; from <= 6; from++) {
                for (int to = 0; to <= 6; to++) {
                    for (int many = 0; many <= 6 - Math.max(from, to); many++) {
                        copied(sort, from, to, many);
                    }
                }
            }
        }
        OakDeeds whole = new OakDeeds();
        whole.sheet(0, FLOATS, 24);
        whole.sheet(1, FLOATS, 24);
        whole.mark(0, 0, NONE);
        whole.mark(0, 23, 77777);
        Says.due("all 24", whole.copy(0, 0, 1, 0, 24), 24);
        Says.due("no number comes too", at(whole, 1, 0), KIND);
        Says.due("the last one", at(whole, 1, 23), 77777);

        Says.says("BAD; NOTHING; KIND: they are not of one sort; INDEX (also many below 0; with many 0, of a place above its length).");
        for (int sheet : Says.outside(0, 3)) {
            Says.refused("from " + sheet, y -> y.copy(sheet, 0, 2, 0, 1), BAD);
            Says.refused("to " + sheet, y -> y.copy(2, 0, sheet, 0, 1), BAD);
        }
        Says.refused("from a missing sheet", y -> y.copy(2, 0, 0, 0, 1), NOTHING);
        Says.refused("to a missing sheet", y -> y.copy(0, 0, 2, 0, 1), NOTHING);
        Says.refused("to a missing sheet, no place", y -> y.copy(0, 99, 2, 0, -1), NOTHING);
        Says.refused("shorts to floats", y -> y.copy(0, 0, 1, 0, 1), KIND);
        Says.refused("floats to shorts", y -> y.copy(1, 0, 0, 0, 1), KIND);
        Says.refused("shorts to floats, none", y -> y.copy(0, 0, 1, 0, 0), KIND);
        Says.refused("shorts to floats, no place", y -> y.copy(0, 99, 1, 0, -1), KIND);
        int[][] wrong = {{-1, 0, 1}, {0, -1, 1}, {4, 0, 1}, {0, 4, 1}, {0, 1, 4}, {1, 0, 4}, {0, 0, 5}, {3, 0, 2},
            {0, 3, 2}, {0, 0, -1}, {4, 4, -1}, {5, 0, 0}, {0, 5, 0}, {-1, 0, 0}, {0, -1, 0}, {2, 2, -2}, {5, 5, -1},
            {1, 1, Oak.HIGH}, {Oak.HIGH, 0, 1}, {Oak.HIGH, 0, Oak.HIGH}, {0, Oak.HIGH, Oak.HIGH}, {Oak.LOW, 0, 1},
            {0, Oak.LOW, 1}, {0, 0, Oak.LOW}, {Oak.LOW, Oak.LOW, Oak.LOW}, {Oak.HIGH, 0, 0}, {0, Oak.LOW, 0}};
        for (int[] w : wrong) {
            Says.refused(w[2] + " from " + w[0] + " to " + w[1], y -> y.copy(0, w[0], 0, w[1], w[2]), INDEX);
        }
        Says.refused("to an empty sheet", y -> y.copy(1, 0, 3, 0, 1), INDEX);
        Says.refused("from an empty sheet", y -> y.copy(3, 0, 1, 0, 1), INDEX);
        Says.refused("none to behind an empty sheet", y -> y.copy(1, 0, 3, 1, 0), INDEX);
        Says.changesNothing("none to an empty sheet", y -> y.copy(1, 3, 3, 0, 0), 0);
        Says.changesNothing("none at the end", y -> y.copy(0, 4, 0, 4, 0), 0);

        Says.says("(From a SHEET, its place, to a SHEET, its place.)");
        OakDeeds x = row(SHORTS, 10, 11, 12, 13);
        putRow(x, 3, SHORTS, 20, 21, 22, 23, 24, 25);
        Says.due("from sheet 0, place 1, to sheet 3, place 4", x.copy(0, 1, 3, 4, 2), 2);
        int[] due = {20, 21, 22, 23, 11, 12};
        for (int i = 0; i < 6; i++) {
            Says.due("place " + i, at(x, 3, i), due[i]);
        }
        for (int i = 0; i < 4; i++) {
            Says.due("of what it came from, place " + i, at(x, 0, i), 10 + i);
        }
    }

    /** Copied within one sheet, and from it to another one, of six places each. */
    private static void copied(int sort, int from, int to, int many) {
        OakDeeds x = row(sort, 10, 11, 12, 13, 14, 15);
        putRow(x, 1, sort, 20, 21, 22, 23, 24, 25);
        String what = many + " from " + from + " to " + to;
        Says.due(what + " of another", x.copy(0, from, 1, to, many), many);
        Says.due(what, x.copy(0, from, 0, to, many), many);
        for (int i = 0; i < 6; i++) {
            boolean come = i >= to && i < to + many;
            Says.due(what + " of another, place " + i, at(x, 1, i), come ? 10 + i - to + from : 20 + i);
            Says.due(what + ", place " + i, at(x, 0, i), come ? 10 + i - to + from : 10 + i);
        }
    }

    private static void lay() {
        Says.in("Promise 38");
        Says.says("`int lay(int slot, int thing, int k)`: A SLOT holds: thing 0 nothing, 1 CALL k (100 times the DEED, and the CALL), 2 SHEET k, 3 the number k: what it held (0 .. 3).");
        for (int held = 0; held <= 3; held++) {
            for (int thing = 0; thing <= 3; thing++) {
                OakDeeds x = Oak.world();
                x.lay(4, held, 1);
                Says.due("thing " + thing + " in place of " + held, x.lay(4, thing, 1), held);
                Says.due("a call then", x.ask(4, 0), thing == 1 ? 5 : thing == 0 ? NOTHING : KIND);
                Says.due("a sheet then", x.item(4, 0), thing == 2 ? -99999 : thing == 0 ? NOTHING : KIND);
                Says.due("a number then", x.rest(4, 10), thing == 3 ? 1 : thing == 0 ? NOTHING : KIND);
            }
        }
        OakDeeds four = new OakDeeds();
        TermSentences.fillDeeds(four);
        for (int d = 0; d < 4; d++) {
            for (int i = 0; i < 10; i++) {
                four.call(d, 1, 100 * d + 1 + i);
            }
        }
        for (int d = 0; d < 4; d++) {
            for (int i = 0; i < 10; i++) {
                four.lay(0, 1, 100 * d + i);
                Says.due("call " + i + " of deed " + d, four.ask(0, 1), d + 1 + i);
            }
        }
        for (int sheet = 0; sheet < 4; sheet++) {
            four.sheet(sheet, SHORTS, 1);
            four.mark(sheet, 0, 70 + sheet);
        }
        for (int sheet = 0; sheet < 4; sheet++) {
            four.lay(1, 2, sheet);
            Says.due("sheet " + sheet, four.item(1, 0), 70 + sheet);
        }
        for (int k : new int[] {0, -7, Oak.LOW, Oak.HIGH}) {
            four.lay(2, 3, 5);
            Says.due("nothing, k " + k, four.lay(2, 0, k), 3);
            Says.due("nothing then", four.rest(2, 1), NOTHING);
        }

        Says.says("BAD: slot, thing, k; NOTHING: that SHEET is MISSING.");
        for (int slot : Says.outside(0, 4)) {
            for (int thing = 0; thing <= 3; thing++) {
                int of = thing;
                Says.refused("slot " + slot + ", thing " + thing, y -> y.lay(slot, of, 2), BAD);
            }
        }
        for (int thing : Says.outside(0, 3)) {
            Says.refused("thing " + thing, y -> y.lay(0, thing, 0), BAD);
        }
        for (int k : new int[] {6, 7, 10, 99, 103, 110, 199, 200, 300, 400, 1000, -1, -99, -100, -94, 65536, Oak.LOW,
            Oak.HIGH}) {
            Says.refused("call " + k, y -> y.lay(1, 1, k), BAD);
        }
        for (int k : Says.outside(0, 3)) {
            Says.refused("sheet " + k, y -> y.lay(0, 2, k), BAD);
        }
        for (int slot = 0; slot < 5; slot++) {
            int in = slot;
            Says.refused("a missing sheet in the slot " + slot, y -> y.lay(in, 2, 2), NOTHING);
        }
        Says.due("there are no calls", Oak.oneDeed(0).lay(0, 1, 0), BAD);
        Says.due("there are no deeds", new OakDeeds().lay(0, 1, 0), BAD);
    }

    private static void ask() {
        Says.in("Promise 39");
        Says.says("`int ask(int slot, int kind)`: WORTH (its own) of the CALL in a SLOT, taken for one of a KIND (0 .. 5).");
        int[] worths = {20, 22, 50, 46, 66, -15};
        String[] ofKinds = {"0", "01", "02", "013", "024", "05"};
        for (int call = 0; call < 6; call++) {
            OakDeeds x = Oak.oneDeed(0, 0, 720, 1, 319, 2, 218, 3, 617, 4, 516, 5, 415);
            x.lay(3, 1, call);
            for (char kind : ofKinds[call].toCharArray()) {
                Says.due("call " + call + " for " + kind, x.ask(3, kind - '0'), worths[call]);
            }
        }

        Says.says("BAD; NOTHING; KIND: it is no CALL, or not of that KIND, nor of one under it.");
        for (int slot : Says.outside(0, 4)) {
            Says.refused("slot " + slot, y -> y.ask(slot, 0), BAD);
        }
        for (int kind : Says.outside(0, 5)) {
            for (int slot = 0; slot < 5; slot++) {
                int in = slot;
                Says.refused("kind " + kind + " of slot " + slot, y -> y.ask(in, kind), BAD);
            }
        }
        for (int kind = 0; kind < 6; kind++) {
            int of = kind;
            Says.refused("nothing for " + kind, y -> y.ask(3, of), NOTHING);
            Says.refused("a sheet for " + kind, y -> y.ask(1, of), KIND);
            Says.refused("a number for " + kind, y -> y.ask(2, of), KIND);
            for (int call = 0; call < 6; call++) {
                OakDeeds x = Oak.world();
                x.lay(4, 1, call);
                boolean is = ofKinds[call].indexOf('0' + kind) >= 0;
                Says.due("call " + call + " for " + kind + " is refused", x.ask(4, kind) == KIND, !is);
            }
        }
    }

    private static void itemAndRest() {
        Says.in("Promise 40");
        Says.says("`int item(int slot, int place)`: A place of the SHEET in a SLOT.");
        OakDeeds x = new OakDeeds();
        x.sheet(0, SHORTS, 24);
        for (int i = 0; i < 24; i++) {
            x.mark(0, i, 500 - 77 * i);
        }
        x.lay(2, 2, 0);
        for (int i = 0; i < 24; i++) {
            Says.due("place " + i, x.item(2, i), 500 - 77 * i);
        }

        Says.says("BAD: slot; NOTHING; KIND: it is no SHEET; INDEX; KIND: NO NUMBER.");
        for (int slot : Says.outside(0, 4)) {
            Says.refused("slot " + slot, y -> y.item(slot, 99), BAD);
        }
        for (int place : new int[] {-1, 0, 1, 99}) {
            Says.refused("nothing, place " + place, y -> y.item(4, place), NOTHING);
            Says.refused("a call, place " + place, y -> y.item(0, place), KIND);
            Says.refused("a number, place " + place, y -> y.item(2, place), KIND);
        }
        for (int place : Says.outside(0, 2)) {
            Says.refused("place " + place, y -> y.item(1, place), INDEX);
        }
        Says.refusedAfter("an empty sheet", y -> y.lay(3, 2, 3), y -> y.item(3, 0), INDEX);
        Says.refused("no number", y -> y.item(1, 1), KIND);
        Says.due("place 24 of 24", x.item(2, 24), INDEX);

        Says.in("Promise 41");
        Says.says("`int rest(int slot, int n)`: The rest of the number in a SLOT by n.");
        int[] numbers = {0, 1, -1, 7, -7, 1000, Oak.LOW, Oak.HIGH};
        int[] bys = {1, -1, 2, -2, 5, -5, 8, Oak.LOW, Oak.HIGH};
        for (int number : numbers) {
            OakDeeds r = new OakDeeds();
            r.lay(0, 3, number);
            for (int by : bys) {
                // With the sign of the number, as / cuts towards 0: in longs, so that nothing wraps.
                long due = (long) number - (long) number / by * by;
                Says.due(number + " by " + by, r.rest(0, by), (int) due);
            }
        }

        Says.says("BAD: slot; NOTHING; KIND: it is no number; NO: n is 0.");
        for (int slot : Says.outside(0, 4)) {
            Says.refused("slot " + slot, y -> y.rest(slot, 0), BAD);
            Says.refused("slot " + slot, y -> y.rest(slot, 1), BAD);
        }
        for (int n = 0; n <= 1; n++) {
            int by = n;
            Says.refused("nothing by " + n, y -> y.rest(3, by), NOTHING);
            Says.refused("a call by " + n, y -> y.rest(0, by), KIND);
            Says.refused("a sheet by " + n, y -> y.rest(1, by), KIND);
        }
        Says.refused("a number by 0", y -> y.rest(2, 0), NO);
    }

    private static void tellAndCheck() {
        Says.in("Promise 42");
        Says.says("`int tell(int v)`: One more number waits: how many.");
        OakDeeds x = new OakDeeds();
        for (int i = 1; i <= 60; i++) {
            Says.due("a number", x.tell(i % 2 == 0 ? Oak.LOW : NONE), i);
            Says.due("so many wait", x.count(4), i);
        }
        Says.says("FULL: 60 wait.");
        Says.due("a number more", x.tell(0), FULL);
        Says.due("so many wait", x.count(4), 60);
        Says.refusedAfter("a number more", SheetSentences::fillWaiting, y -> y.tell(0), FULL);
        OakDeeds just = new OakDeeds();
        for (int i = 0; i < 59; i++) {
            just.tell(i);
        }
        Says.due("the sixtieth", just.tell(0), 60);

        Says.in("Promise 43");
        Says.says("`int check(int deed)`: The numbers that wait (none do then, whatever is answered) are THE CORNERS TOLD of a DEED (of THE IMAGE), two by two: 0; else 1 and how many stand right ahead of the first that is not (or is missing, or one too many).");
        for (int calls = 0; calls <= 10; calls++) {
            for (int many = 0; many <= 2 * calls + 3; many++) {
                OakDeeds c = steps(calls);
                for (int i = 0; i < many; i++) {
                    c.tell(step(i));
                }
                int due = many == 2 * calls ? 0 : 1 + Math.min(many, 2 * calls);
                Says.due(many + " of " + 2 * calls, c.check(1), due);
                Says.due("none waits", c.count(4), 0);
            }
            for (int wrong = 0; wrong < 2 * calls; wrong++) {
                OakDeeds c = steps(calls);
                for (int i = 0; i < 2 * calls; i++) {
                    c.tell(i < wrong ? step(i) : i == wrong ? step(i) + 1 : i % 3 == 0 ? 0 : step(i));
                }
                Says.due("wrong at " + wrong, c.check(1), 1 + wrong);
                Says.due("none waits", c.count(4), 0);
            }
        }
        OakDeeds many = steps(10);
        for (int i = 0; i < 60; i++) {
            many.tell(step(i));
        }
        Says.due("60 wait, 20 are due", many.check(1), 21);
        Says.due("none is told, 20 are due", many.check(1), 1);
        Says.due("none is told, none is due", many.check(0), 0);
        OakDeeds no = new OakDeeds();
        no.tell(1);
        Says.due("no image", no.check(0), NO);
        Says.due("none waits", no.count(4), 0);
        OakDeeds bad = steps(1);
        bad.tell(1);
        Says.due("no such deed", bad.check(2), BAD);
        Says.due("none waits", bad.count(4), 0);

        Says.says("NO: there is no IMAGE; BAD: no such DEED in it.");
        OakDeeds none = Oak.oneDeed(0, 1, 5);
        none.tell(5);
        Says.due("no image", none.check(0), NO);
        Says.due("none waits", none.count(4), 0);
        Says.due("no image, no such deed", none.check(9), NO);
        for (int deed : Says.outside(0, 1)) {
            Says.refusedButWaiting("deed " + deed, y -> { }, y -> y.check(deed), BAD);
            OakDeeds w = Oak.world();
            w.check(deed);
            Says.due("none waits", w.count(4), 0);
        }
        OakDeeds later = new OakDeeds();
        later.keep();
        later.deed(0, 0, 0);
        Says.due("a deed that is not in it", later.check(0), BAD);
        later.keep();
        Says.due("a deed that is in it", later.check(0), 0);
    }

    private static void fillWaiting(OakDeeds x) {
        for (int i = x.count(4); i < 60; i++) {
            x.tell(i);
        }
    }

    /** An image of two deeds, the second with so many calls that all go by 10 to the right and up from 3, 4. */
    private static OakDeeds steps(int calls) {
        OakDeeds x = new OakDeeds();
        x.deed(0, 0, 0);
        x.deed(304, 0, 0);
        for (int i = 0; i < calls; i++) {
            x.call(1, 1, 110);
        }
        x.keep();
        return x;
    }

    private static int step(int i) {
        return 10 * (i / 2 + 1) + 3 + i % 2;
    }

    private static void keepAndBack() {
        Says.in("Promise 44");
        Says.says("`int keep()`: AN IMAGE is kept: how many DEEDS.");
        OakDeeds x = new OakDeeds();
        for (int deeds = 0; deeds <= 4; deeds++) {
            Says.due("an image of " + deeds, x.keep(), deeds);
            Says.due("the same again", x.keep(), deeds);
            x.deed(0, deeds, 0);
            x.back();
            Says.due("back to " + deeds, x.count(1), deeds);
            x.deed(0, deeds, 0);
        }
        List<Integer> before = Oak.land(Oak.world());
        OakDeeds w = Oak.world();
        w.keep();
        Says.due("the land stays", Oak.land(w).equals(before), true);
        Says.due("and is the image", Oak.image(w).equals(withFirst(2, before)), true);

        Says.in("Promise 45");
        Says.says("`int back()`: All is as THE IMAGE: how many DEEDS.");
        OakDeeds b = new OakDeeds();
        b.stone(-99, 99);
        Oak.rectangle(b, 505, 731, 10, 6);
        Oak.text(b, "first 0-y");
        b.seed(-5);
        b.keep();
        List<Integer> kept = Oak.land(b);
        for (int again = 0; again < 3; again++) {
            TermSentences.fillStones(b);
            b.move(0, 0, 0);
            TermSentences.fillDeeds(b);
            b.set(0, again, 9);
            b.deal(0, 5);
            b.turns(0, 1, 5);
            Oak.text(b, "first 7");
            Says.due("deeds", b.back(), 1);
            Says.due("as it was", Oak.land(b).equals(kept), true);
        }
        OakDeeds empty = new OakDeeds();
        empty.keep();
        TermSentences.fillDeeds(empty);
        Says.due("to no deeds", empty.back(), 0);
        Says.due("no deed 0", empty.deedTold(0, 0), BAD);
        Says.due("a year that is no more", empty.learn(1), NONE);
        OakDeeds full = new OakDeeds();
        TermSentences.fillDeeds(full);
        full.keep();
        Says.due("to four deeds", full.back(), 4);
        Says.says("NO: there is none.");
        OakDeeds none = Oak.oneDeed(505, 0, 5);
        Says.due("no image", none.back(), NO);
        Says.due("all stays", none.count(2), 1);
        Says.due("no image, nothing at all", new OakDeeds().back(), NO);
        none.check(0);
        Says.due("no image still", none.back(), NO);
        none.keep();
        Says.due("an image", none.back(), 1);
    }

    private static void count() {
        Says.in("Promise 46");
        Says.says("`int count(int what)`: How many: 0 STONES, 1 DEEDS, 2 CALLS of all, 3 TEXTS, 4 numbers that wait, 5 bytes of THE TAPE, 6 z.");
        int[] due = {3, 2, 9, 3, 12, 11, 77};
        for (int what = 0; what < 7; what++) {
            Says.due("of the world, what " + what, Oak.world().count(what), due[what]);
        }
        int[] none = {0, 0, 0, 0, 0, 0, 1};
        for (int what = 0; what < 7; what++) {
            Says.due("at first, what " + what, new OakDeeds().count(what), none[what]);
        }
        OakDeeds full = new OakDeeds();
        TermSentences.fillStones(full);
        TermSentences.fillDeeds(full);
        for (int d = 0; d < 4; d++) {
            TermSentences.fillCalls(full, d);
        }
        TermSentences.fillTexts(full, " ".repeat(96));
        fillWaiting(full);
        full.seed(Oak.LOW);
        int[] most = {8, 4, 40, 14, 60, 96, Oak.LOW};
        for (int what = 0; what < 7; what++) {
            Says.due("at most, what " + what, full.count(what), most[what]);
        }
        full.drop(3, 0);
        Says.due("calls of all", full.count(2), 39);
        OakDeeds gone = new OakDeeds();
        gone.keep();
        TermSentences.fillDeeds(gone);
        gone.deal(0, 10);
        gone.back();
        Says.due("none of deeds that are no more", gone.count(2), 0);
        Says.says("BAD.");
        for (int what : Says.outside(0, 6)) {
            Says.refused("what " + what, y -> y.count(what), BAD);
        }
    }
}
