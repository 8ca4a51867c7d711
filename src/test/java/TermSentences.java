/** The sentences ahead of the promises, but those on texts, sheets, slots and images: a test for each. */
final class TermSentences {
    private static final int BAD = Oak.BAD, NO = Oak.NO, FULL = Oak.FULL, NONE = Oak.NONE;
    private static final int NOTHING = Oak.NOTHING, KIND = Oak.KIND, INDEX = Oak.INDEX;

    private TermSentences() {
    }

    static void run() {
        use();
        refusals();
        stonesAndDeeds();
        needlesAndChains();
        ends();
        worths();
        corners();
        cells();
        slips();
        needlesThatClose();
        nearAndDraws();
    }

    private static void use() {
        Says.in("What it is");
        Says.says("An object is used for at most 512 calls after it has been made; what later calls answer is free.");
        OakDeeds x = new OakDeeds();
        for (int i = 1; i <= 511; i++) {
            Says.due("seed, the call " + i, x.seed(i + 1), i);
        }
        Says.due("count, the call 512", x.count(6), 512);
        // What these answer is free, but none of them may throw.
        for (int i = 0; i < 1000; i++) {
            x.deed(i, i, 0);
            x.deal(i % 4, i % 10);
            x.would(x.stone(0, 0), i, i);
        }

        Says.in("Terms");
        Says.says("All numbers are whole; / cuts towards 0.");
        Says.due("(0-7)/2", rank("(0-7)/2"), -3);
        Says.due("7/(0-2)", rank("7/(0-2)"), -3);
        Says.due("(0-7)/(0-2)", rank("(0-7)/(0-2)"), 3);
        Says.due("(0-1)/2", rank("(0-1)/2"), 0);
        Says.due("9999/5000", rank("9999/5000"), 1);
        OakDeeds half = Oak.oneDeed(1001, 3, 1, 4, 1);
        half.stone(-13, -4);
        Says.due("half of -13 and 10", half.corner(0, 2, 0), -1);
        Says.due("half of -4 and 1", half.corner(0, 2, 1), -1);
        OakDeeds least = Oak.oneDeed(0, 0, 1, 0, 11);
        least.set(0, 1, -9);
        Says.due("91 / 100", least.told(0, 0, 3), 0);
        Says.due("1001 / 100", least.told(0, 1, 3), 10);
        Says.due("the rest of -7 by 2", restOf(-7, 2), -1);
    }

    /** What first gives for the deed 1, of the year 5 and with two calls. */
    static int rank(String e) {
        OakDeeds x = new OakDeeds();
        x.deed(0, 0, 0);
        x.deed(0, 5, 0);
        Oak.addCalls(x, 1, 0, 1, 0, 1);
        int text = Oak.text(x, "first " + e);
        return text == 0 ? x.deedTold(1, 7) : text;
    }

    private static int restOf(int number, int by) {
        OakDeeds x = new OakDeeds();
        x.lay(0, 3, number);
        return x.rest(0, by);
    }

    private static void refusals() {
        Says.says("A call that is refused answers one of BAD, NO, FULL, or a FINDING, of several the one that stands first with it, and changes nothing (but the tape and the numbers that wait, where told).");
        Says.refusedAfter("a ninth stone, too far", TermSentences::fillStones, x -> x.stone(100, 0), BAD);
        Says.refusedAfter("a ninth stone", TermSentences::fillStones, x -> x.stone(0, 0), FULL);
        Says.refusedAfter("a fifth deed of no year", TermSentences::fillDeeds, x -> x.deed(0, 1000, 0), BAD);
        Says.refusedAfter("a fifth deed", TermSentences::fillDeeds, x -> x.deed(0, 0, 0), FULL);
        Says.refusedAfter("an eleventh call of no kind", x -> fillCalls(x, 0), x -> x.call(0, 6, 1), BAD);
        Says.refusedAfter("an eleventh call", x -> fillCalls(x, 0), x -> x.call(0, 0, 1), FULL);
        Says.refused("a call that is not there, as of no kind of its own", x -> x.as(0, 6, 5), BAD);
        Says.refused("a call as of no kind of its own", x -> x.as(0, 4, 5), KIND);
        Says.refused("no such corner, what 2", x -> x.corner(0, 99, 2), BAD);
        Says.refused("no such corner", x -> x.corner(0, 99, 1), NONE);
        Says.refused("near, what 2", x -> x.near(0, 2), BAD);
        Says.due("near no stone, with no deeds", new OakDeeds().near(0, 0), BAD);
        Says.refusedButTape("a fifteenth text with a fault", x -> fillTexts(x, "first s"), x -> x.text(), -106);
        Says.refusedButTape("a fifteenth text", x -> fillTexts(x, "first y"), x -> x.text(), FULL);
        Says.refused("sheet 4, -1 places", x -> x.sheet(4, 0, -1), BAD);
        Says.refused("sort 2, -1 places", x -> x.sheet(0, 2, -1), BAD);
        Says.refused("mark in sheet 4", x -> x.mark(4, 99, NONE), BAD);
        Says.refused("mark in a missing sheet", x -> x.mark(2, 99, NONE), NOTHING);
        Says.refused("mark no number where there is no place", x -> x.mark(0, 99, NONE), INDEX);
        Says.refused("mark too much where there is no place", x -> x.mark(1, 99, 100000), INDEX);
        Says.refused("pour a missing sheet to no deed", x -> x.pour(2, 2), BAD);
        Says.refusedAfter("pour a missing sheet without room", x -> fillCalls(x, 0), x -> x.pour(2, 0), NOTHING);
        Says.refused("read a missing sheet for no deed", x -> x.reads(2, 2), BAD);
        Says.refused("copy from a missing sheet to none", x -> x.copy(2, 0, 4, 0, 1), BAD);
        Says.refused("copy from shorts to a missing sheet", x -> x.copy(0, 99, 2, 0, 1), NOTHING);
        Says.refused("copy from shorts to floats", x -> x.copy(0, 99, 1, 0, 1), KIND);
        Says.refused("lay a missing sheet in slot 5", x -> x.lay(5, 2, 2), BAD);
        Says.refused("ask nothing for no kind", x -> x.ask(3, 6), BAD);
        Says.refused("ask a number for no kind", x -> x.ask(2, 6), BAD);
        Says.refused("an item of nothing", x -> x.item(3, 99), NOTHING);
        Says.refused("an item of a number", x -> x.item(2, 99), KIND);
        Says.refused("no number, no place", x -> x.item(1, 99), INDEX);
        Says.refused("the rest of nothing by 0", x -> x.rest(3, 0), NOTHING);
        Says.refused("the rest of a sheet by 0", x -> x.rest(1, 0), KIND);
        Says.due("check of no deed without an image", new OakDeeds().check(9), NO);
        Says.refusedButWaiting("check of no deed", x -> { }, x -> x.check(2), BAD);

        Says.says("NONE: there is none.");
        OakDeeds x = new OakDeeds();
        Says.due("nobody's cell", x.whose(1515), -1000000005);
        Says.due("a year of no deed", x.learn(5), -1000000005);
        Says.due("no text", x.why(0), -1000000005);
        x.stone(0, 0);
        Says.due("no deed near", x.near(0, 1), -1000000005);
        x.deed(0, 0, 0);
        Says.due("no corner 1", x.corner(0, 1, 0), -1000000005);
        Says.due("no call that slipped", x.slip(0, 2), -1000000005);
        x.sheet(0, 0, 2);
        Says.due("no place that is not right", x.reads(0, 0), -1000000005);
    }

    static void fillStones(OakDeeds x) {
        for (int i = x.count(0); i < 8; i++) {
            x.stone(i, i);
        }
    }

    static void fillDeeds(OakDeeds x) {
        for (int i = x.count(1); i < 4; i++) {
            x.deed(100 * i, i, i);
        }
    }

    static void fillCalls(OakDeeds x, int deed) {
        for (int i = x.deedTold(deed, 4); i < 10; i++) {
            x.call(deed, 0, 305);
        }
    }

    /** Texts until there are 14, and then this tape. */
    static void fillTexts(OakDeeds x, String tape) {
        for (int i = x.count(3); i < 14; i++) {
            Oak.text(x, "chain y");
        }
        Oak.tape(x, tape);
    }

    private static void stonesAndDeeds() {
        Says.in("Terms 1");
        Says.says("STONES, 8 at most, numbered from 0, each at x, y (-99 .. 99 each).");
        OakDeeds x = new OakDeeds();
        int[] edges = {-99, 99, 0, -1, 1, 98, -98, 50};
        for (int i = 0; i < 8; i++) {
            Says.due("stone " + i, x.stone(edges[i], edges[7 - i]), i);
        }
        for (int i = 0; i < 8; i++) {
            Says.due("x of stone " + i, x.stoneTold(i, 0), edges[i]);
            Says.due("y of stone " + i, x.stoneTold(i, 1), edges[7 - i]);
        }
        Says.due("a ninth", x.stone(0, 0), FULL);
        for (int at = -130; at <= 130; at++) {
            int due = at < -99 || at > 99 ? BAD : 0;
            Says.due("stone at x " + at, new OakDeeds().stone(at, 7), due);
            Says.due("stone at y " + at, new OakDeeds().stone(7, at), due);
            Says.due("a stone moved to x " + at, x.move(0, at, 99) == BAD ? BAD : 0, due);
        }

        Says.says("DEEDS, 4 at most, numbered from 0: a BEGINNING x, y (0 .. 29 each), a YEAR 0 .. 999, a SLACK -9 .. 9; and CALLS, 10 at most each, numbered from 0: a WAY 0 .. 7, a LENGTH 1 .. 20, and of KINDS: 0 CALL; 1 STRAIGHT, 2 BACK, 5 SLIP, under CALL; 3 TO, under STRAIGHT; 4 HALF, under BACK (all are CALLS).");
        deedNumbers();
        callNumbers();
        kindsUnderOneAnother();
    }

    private static void deedNumbers() {
        for (int at = -130; at <= 3130; at++) {
            boolean right = at >= 0 && at / 100 <= 29 && at % 100 <= 29;
            OakDeeds x = new OakDeeds();
            Says.due("a deed that begins at " + at, x.deed(at, 0, 0), right ? 0 : BAD);
            Says.due("x of " + at, x.deedTold(0, 0), right ? at / 100 : BAD);
            Says.due("y of " + at, x.deedTold(0, 1), right ? at % 100 : BAD);
        }
        for (int year : new int[] {-1, 0, 1, 998, 999, 1000}) {
            Says.due("year " + year, new OakDeeds().deed(0, year, 0), year < 0 || year > 999 ? BAD : 0);
        }
        for (int slack = -12; slack <= 12; slack++) {
            Says.due("slack " + slack, new OakDeeds().deed(0, 0, slack), slack < -9 || slack > 9 ? BAD : 0);
        }
        OakDeeds x = new OakDeeds();
        for (int i = 0; i < 4; i++) {
            Says.due("deed " + i, x.deed(i, 999 - i, -9 + i), i);
        }
        Says.due("a fifth", x.deed(0, 0, 0), FULL);
        for (int i = 0; i < 4; i++) {
            Says.due("year of " + i, x.deedTold(i, 2), 999 - i);
            Says.due("slack of " + i, x.deedTold(i, 3), -9 + i);
        }
        for (int d = 3; d >= 0; d--) {
            for (int i = 0; i < 10; i++) {
                Says.due("call " + i + " of deed " + d, x.call(d, 0, 1), i);
            }
            Says.due("an eleventh of deed " + d, x.call(d, 0, 1), FULL);
        }
    }

    private static void callNumbers() {
        for (int run = -130; run <= 930; run++) {
            boolean right = run >= 0 && run / 100 <= 7 && run % 100 >= 1 && run % 100 <= 20;
            OakDeeds x = Oak.oneDeed(0);
            Says.due("a call with the run " + run, x.call(0, 0, run), right ? 0 : BAD);
            Says.due("its way", x.told(0, 0, 1), right ? run / 100 : BAD);
            Says.due("its length", x.told(0, 0, 2), right ? run % 100 : BAD);
        }
        for (int kind = -2; kind <= 8; kind++) {
            boolean right = kind >= 0 && kind <= 5;
            OakDeeds x = Oak.oneDeed(0);
            Says.due("a call of the kind " + kind, x.call(0, kind, 1), right ? 0 : BAD);
            Says.due("its kind", x.told(0, 0, 0), right ? kind : BAD);
        }
    }

    private static void kindsUnderOneAnother() {
        String[] ofKinds = {"0", "01", "02", "013", "024", "05"};
        OakDeeds x = Oak.oneDeed(0, 0, 1, 1, 2, 2, 3, 3, 4, 4, 5, 5, 6);
        for (int call = 0; call < 6; call++) {
            for (int kind = 0; kind < 6; kind++) {
                boolean is = ofKinds[call].indexOf('0' + kind) >= 0;
                Says.due("a call of the kind " + call + " as " + kind, x.as(0, call, kind), is ? call + 1 : KIND);
            }
        }
    }

    private static void needlesAndChains() {
        Says.says("By WAYS one goes (1, 0), (1, 1), (0, 1), (-1, 1), (-1, 0), (-1, -1), (0, -1), (1, -1) for each of TRUE.");
        for (int way = 0; way < 8; way++) {
            OakDeeds x = Oak.oneDeed(1514, 1, 100 * way + 20);
            x.set(0, 1, 9);
            Says.due("x by the way " + way, x.corner(0, 1, 0), 15 + 21 * Oak.WAY_X[way]);
            Says.due("y by the way " + way, x.corner(0, 1, 1), 14 + 21 * Oak.WAY_Y[way]);
        }

        Says.says("NEEDLE of a DEED: what needle gives, its rest by 8 (0 .. 7; of numbers below 0 and 8 more) (without a TEXT: 0).");
        OakDeeds x = Oak.oneDeed(0);
        for (int year = 0; year <= 999; year += 333) {
            x.set(0, 0, year);
            Says.due("without a text", x.deedTold(0, 5), 0);
        }
        Oak.text(x, "needle y-500");
        for (int year = 480; year <= 520; year++) {
            x.set(0, 0, year);
            Says.due(year - 500 + " by 8", x.deedTold(0, 5), Math.floorMod(year - 500, 8));
        }
        OakDeeds wrapped = Oak.oneDeed(0);
        Oak.text(wrapped, "needle 2048*1024*1024+y");
        Says.due("the least int by 8", wrapped.deedTold(0, 5), 0);
        wrapped.set(0, 0, 3);
        Says.due("the least int and 3, by 8", wrapped.deedTold(0, 5), 3);
        Oak.text(wrapped, "needle 2048*1024*1024-1");
        Says.due("the greatest int by 8", wrapped.deedTold(0, 5), 7);

        Says.says("CHAIN of a DEED: what chain gives, held within -9 .. 9 (without a TEXT: SLACK).");
        OakDeeds c = Oak.oneDeed(0);
        for (int slack = -9; slack <= 9; slack++) {
            c.set(0, 1, slack);
            Says.due("without a text", c.deedTold(0, 6), slack);
        }
        Oak.text(c, "chain y-500");
        for (int year = 480; year <= 520; year++) {
            c.set(0, 0, year);
            Says.due(year - 500 + " held", c.deedTold(0, 6), Math.max(-9, Math.min(9, year - 500)));
        }
        Oak.text(c, "chain 2048*1024*1024");
        Says.due("the least int held", c.deedTold(0, 6), -9);
        Oak.text(c, "chain 2048*1024*1024-1");
        Says.due("the greatest int held", c.deedTold(0, 6), 9);

        Says.says("TRUE of a CALL: LENGTH times (100 and CHAIN) / 100.");
        for (int slack = -9; slack <= 9; slack++) {
            OakDeeds t = new OakDeeds();
            t.deed(0, 0, slack);
            t.deed(0, 0, slack);
            for (int length = 1; length <= 20; length++) {
                t.call(length / 11, 0, length);
                int due = length * (100 + slack) / 100;
                Says.due(length + " by " + slack, t.told(length / 11, (length - 1) % 10, 3), due);
            }
        }
    }

    private static void ends() {
        Says.says("ITS END from a place: CALL: by WAY and NEEDLE together (their rest by 8), TRUE.");
        endsByNeedle(0, true, 0);
        Says.says("STRAIGHT: by WAY, TRUE.");
        endsByNeedle(1, false, 0);

        Says.says("TO: the STONE of the number LENGTH less 1, if there is one; else as STRAIGHT.");
        for (int stones = 0; stones <= 8; stones++) {
            for (int length = 1; length <= 20; length++) {
                OakDeeds x = Oak.oneDeed(1012, 3, 200 + length);
                Oak.text(x, "needle 3");
                for (int i = 0; i < stones; i++) {
                    x.stone(-99 + i, 99 - 2 * i);
                }
                boolean is = length <= stones;
                String to = "to the stone " + (length - 1) + " of " + stones;
                Says.due("x " + to, x.corner(0, 1, 0), is ? -100 + length : 10);
                Says.due("y " + to, x.corner(0, 1, 1), is ? 101 - 2 * length : 12 + length);
            }
        }

        Says.says("BACK: the BEGINNING.");
        OakDeeds back = Oak.oneDeed(1012, 0, 5, 0, 307, 2, 120, 0, 1, 2, 1);
        for (int i : new int[] {3, 5}) {
            Says.due("x of the corner " + i, back.corner(0, i, 0), 10);
            Says.due("y of the corner " + i, back.corner(0, i, 1), 12);
        }
        back.set(0, 2, 2900);
        Says.due("x of another beginning", back.corner(0, 3, 0), 29);
        Says.due("y of another beginning", back.corner(0, 3, 1), 0);

        Says.says("HALF: the middle of the place and the end as BACK (x, y each together, / 2).");
        int[] places = {-99, -31, -30, -29, -14, -13, -12, -11, -10, -9, 0, 1, 9, 10, 11, 98, 99};
        for (int at : places) {
            OakDeeds half = Oak.oneDeed(1013, 3, 1, 4, 320);
            half.stone(at, -at);
            Says.due("between 10 and " + at, half.corner(0, 2, 0), (at + 10) / 2);
            Says.due("between 13 and " + -at, half.corner(0, 2, 1), (13 - at) / 2);
        }
        Says.due("of the beginning itself", Oak.oneDeed(1013, 4, 320).corner(0, 1, 1), 13);

        Says.says("SLIP: by WAY and NEEDLE and 4 together (their rest by 8), TRUE.");
        endsByNeedle(5, true, 4);
    }

    /** Where a call of a kind ends, for all ways and needles. */
    private static void endsByNeedle(int kind, boolean byNeedle, int more) {
        for (int needle = 0; needle < 8; needle++) {
            for (int way = 0; way < 8; way++) {
                OakDeeds x = Oak.oneDeed(1513, kind, 100 * way + 12);
                x.set(0, 1, -9);
                Oak.text(x, "needle " + needle);
                int to = (way + (byNeedle ? needle : 0) + more) % 8;
                String by = " by the way " + way + " and the needle " + needle;
                Says.due("x" + by, x.corner(0, 1, 0), 15 + 10 * Oak.WAY_X[to]);
                Says.due("y" + by, x.corner(0, 1, 1), 13 + 10 * Oak.WAY_Y[to]);
            }
        }
    }

    private static void worths() {
        Says.says("WORTH: CALL: LENGTH.");
        worthsOf(0, 0, 1, 0);
        Says.says("STRAIGHT: as CALL, and WAY.");
        worthsOf(1, 0, 1, 1);
        Says.says("TO: twice as STRAIGHT.");
        worthsOf(3, 0, 2, 2);
        Says.says("BACK: 50.");
        worthsOf(2, 50, 0, 0);
        Says.says("HALF: as BACK, and LENGTH.");
        worthsOf(4, 50, 1, 0);
        Says.says("SLIP: as CALL, with the other sign.");
        worthsOf(5, 0, -1, 0);

        Says.says("(A KIND that is not named does as the one above it.)");
        // Of TRUE no kind is named, so all do as CALL.
        for (int kind = 0; kind < 6; kind++) {
            OakDeeds x = Oak.oneDeed(0, kind, 719);
            x.set(0, 1, 7);
            Says.due("TRUE of the kind " + kind, x.told(0, 0, 3), 20);
        }
    }

    private static void worthsOf(int kind, int fixed, int lengths, int ways) {
        for (int way = 0; way < 8; way++) {
            for (int length : new int[] {1, 2, 19, 20}) {
                OakDeeds x = Oak.oneDeed(0, kind, 100 * way + length);
                x.set(0, 1, 9);
                Oak.text(x, "needle 5");
                int due = fixed + lengths * length + ways * way;
                Says.due("way " + way + ", length " + length, x.told(0, 0, 4), due);
            }
        }
    }

    private static void corners() {
        Says.in("Terms 2");
        Says.says("CORNERS of a DEED: 0 the BEGINNING, i where the CALL i - 1 ends from the CORNER ahead.");
        OakDeeds x = Oak.oneDeed(1203, 1, 5, 0, 204, 3, 1, 4, 1, 5, 106, 1, 302, 2, 1, 0, 620, 0, 720, 0, 20);
        x.stone(-40, 21);
        int[] xs = {12, 17, 17, -40, -14, -20, -22, 12, 12, 32, 52};
        int[] ys = {3, 3, 7, 21, 12, 6, 8, 3, -17, -37, -37};
        for (int i = 0; i < 11; i++) {
            Says.due("x of the corner " + i, x.corner(0, i, 0), xs[i]);
            Says.due("y of the corner " + i, x.corner(0, i, 1), ys[i]);
        }
        Says.due("there is none behind the last", x.corner(0, 11, 0), NONE);
        Says.due("no calls: the beginning", Oak.oneDeed(2900).corner(0, 0, 0), 29);
        Says.due("no calls: no other", Oak.oneDeed(2900).corner(0, 1, 0), NONE);

        Says.says("GAP: from the last CORNER to the BEGINNING: x and y by which they differ, their signs left out, together.");
        Says.due("no calls", Oak.oneDeed(1010).gap(0), 0);
        for (int way = 0; way < 8; way++) {
            Says.due("by the way " + way, Oak.oneDeed(1017, 1, 100 * way + 20).gap(0), way % 2 == 0 ? 20 : 40);
            Says.due("there and back", Oak.oneDeed(2903, 1, 100 * way + 20, 1, (way + 4) % 8 * 100 + 20).gap(0), 0);
        }
        OakDeeds aside = Oak.oneDeed(304, 3, 1);
        int[][] places = {{3, 4}, {4, 3}, {3, 3}, {4, 4}, {-3, 4}, {3, -4}, {0, 0}, {-1, -1}};
        int[] gaps = {0, 2, 1, 1, 6, 8, 7, 9};
        aside.stone(0, 0);
        for (int i = 0; i < gaps.length; i++) {
            aside.move(0, places[i][0], places[i][1]);
            Says.due("from 3, 4 to " + places[i][0] + ", " + places[i][1], aside.gap(0), gaps[i]);
        }
        OakDeeds far = Oak.oneDeed(2929, 3, 1);
        far.stone(-99, -99);
        Says.due("as far as can be by a stone", far.gap(0), 256);

        Says.says("SIDES lie from each CORNER to the next, and from the last to the BEGINNING.");
        Says.due("no calls: nothing is held", Oak.oneDeed(1010).field(0), 0);
        Says.due("a side there and back", Oak.oneDeed(1010, 1, 110).field(0), 0);
        // (10, 10), (20, 10), (20, 20): the last side is the slant; cells with their middle on it lie right of it.
        OakDeeds right = Oak.oneDeed(1010, 1, 10, 1, 210);
        Says.due("right of the last side", right.field(0), 55);
        Says.due("a cell right of it", right.holds(0, 1512), 1);
        Says.due("a cell left of it", right.holds(0, 1215), 0);
        OakDeeds left = Oak.oneDeed(1010, 1, 110, 1, 410);
        Says.due("left of the first side", left.field(0), 45);
        Says.due("its area", left.area(0), 100);

        Says.says("AREA: over all SIDES from (x, y) to (x', y'): x times y' less y times x', together (twice what is held, with a sign).");
        Says.due("no calls", Oak.oneDeed(1010).area(0), 0);
        Says.due("one call", Oak.oneDeed(1010, 1, 120).area(0), 0);
        Says.due("a square", Oak.oneDeed(1010, 1, 7, 1, 207, 1, 407).area(0), 98);
        Says.due("the other way about", Oak.oneDeed(1010, 1, 207, 1, 7, 1, 607).area(0), -98);
        Says.due("twice around", Oak.oneDeed(0, 1, 7, 1, 207, 1, 407, 2, 1, 1, 7, 1, 207, 1, 407).area(0), 196);
        Says.due("there and across", Oak.oneDeed(1010, 1, 5, 1, 305, 1, 5, 1, 505).area(0), 0);
        OakDeeds wide = Oak.oneDeed(2900, 3, 1, 3, 2, 3, 3);
        wide.stone(99, -99);
        wide.stone(99, 99);
        wide.stone(-99, -99);
        // (29, 0), (99, -99), (99, 99), (-99, -99): -2871 + 19602 + 0 + 2871.
        Says.due("as wide as can be", wide.area(0), 19602);
    }

    private static void cells() {
        Says.says("CELLS x, y are 0 .. 29 each.");
        OakDeeds x = wholeGround();
        Says.due("all of them", x.field(0), 900);
        Says.due("nobody's", x.owned(-1), 0);
        for (int cell = -130; cell <= 3130; cell++) {
            // An object is used for 512 calls at most.
            if (cell % 200 == 0) {
                x = wholeGround();
            }
            boolean right = cell >= 0 && cell / 100 <= 29 && cell % 100 <= 29;
            Says.due("the cell " + cell + " is held", x.holds(0, cell), right ? 1 : BAD);
            Says.due("whose the cell " + cell + " is", x.whose(cell), right ? 0 : BAD);
        }

        Says.says("A DEED HOLDS a CELL, if of its SIDES an odd number lies so: one end's y is y or less, the other end's y is above y, and where the SIDE is at the height y and a half it is more to the right than x and a half (exactly, in fractions).");
        Says.due("twice around is even", Oak.oneDeed(0, 1, 7, 1, 207, 1, 407, 2, 1, 1, 7, 1, 207, 1, 407).field(0), 0);
        OakDeeds row = Oak.oneDeed(1010, 1, 5, 1, 201, 1, 405);
        for (int y = 8; y <= 12; y++) {
            for (int at = 8; at <= 16; at++) {
                boolean held = y == 10 && at >= 10 && at < 15;
                Says.due("one row, " + at + ", " + y, row.holds(0, 100 * at + y), held ? 1 : 0);
            }
        }
        int[][] triangles = {{0, 0, 30, 0, 0, 30}, {0, 0, 30, 30, 0, 30}, {3, 2, 29, 9, 7, 29}, {15, 0, -99, 99, 99, 98},
            {0, 0, 99, 33, 33, 99}, {29, 29, -99, -98, 3, 97}, {1, 0, 8, 49, -6, 49}, {14, 29, 13, -99, 16, -98},
            {0, 15, 99, 16, 99, 14}, {10, 10, -5, 25, 25, -5}, {7, 0, 7, 30, 8, 30}, {0, 29, 33, 28, 66, 30}};
        for (int[] t : triangles) {
            heldExactly(t);
        }

        Says.says("WHOSE is a CELL: of DEEDS that HOLD it the one with the least RANK: what first gives (without a TEXT: YEAR); of several the least.");
        OakDeeds w = new OakDeeds();
        Oak.rectangle(w, 0, 700, 9, 9);
        Oak.rectangle(w, 303, 600, 9, 9);
        Oak.rectangle(w, 606, 600, 9, 9);
        Oak.rectangle(w, 2929, 0, 1, 1);
        Says.due("held by one", w.whose(0), 0);
        Says.due("by the year", w.whose(404), 1);
        Says.due("of several the least", w.whose(707), 1);
        Says.due("the last one's", w.whose(1414), 2);
        Says.due("the cell 2929", w.whose(2929), 3);
        w.set(0, 0, 600);
        Says.due("of three the least", w.whose(707), 0);
        Oak.text(w, "first 0-n");
        Says.due("by first", w.whose(707), 2);
        Oak.text(w, "first n*2048*1024*1024");
        Says.due("by the least int", w.whose(707), 1);
        Oak.text(w, "first 3");
        Says.due("the same for all: the least", w.whose(707), 0);
    }

    /** One deed that holds all cells: its last corners lie beyond them. */
    static OakDeeds wholeGround() {
        OakDeeds x = Oak.oneDeed(0, 3, 1, 3, 2, 3, 3);
        x.stone(30, 0);
        x.stone(30, 30);
        x.stone(0, 30);
        return x;
    }

    /** All cells of a triangle, against fractions that are held by their two numbers. */
    private static void heldExactly(int[] t) {
        int field = 0;
        for (int at = 0; at < 30; at++) {
            OakDeeds x = Oak.oneDeed(100 * t[0] + t[1], 3, 1, 3, 2);
            x.stone(t[2], t[3]);
            x.stone(t[4], t[5]);
            for (int y = 0; y < 30; y++) {
                int right = 0;
                for (int i = 0; i < 6; i += 2) {
                    right += liesRight(t[i], t[i + 1], t[(i + 2) % 6], t[(i + 3) % 6], at, y) ? 1 : 0;
                }
                field += right % 2;
                Says.due("the cell " + at + ", " + y, x.holds(0, 100 * at + y), right % 2);
            }
            if (at == 29) {
                Says.due("all of them", x.field(0), field);
            }
        }
    }

    private static boolean liesRight(long x1, long y1, long x2, long y2, int x, int y) {
        if (y1 > y2) {
            return liesRight(x2, y2, x1, y1, x, y);
        }
        if (y1 > y || y2 <= y) {
            return false;
        }
        // x1 + (x2 - x1) * (y + 1/2 - y1) / (y2 - y1) > x + 1/2, both times 2 * (y2 - y1), which is above 0.
        return 2 * x1 * (y2 - y1) + (x2 - x1) * (2L * y + 1 - 2 * y1) > (2L * x + 1) * (y2 - y1);
    }

    private static void slips() {
        Says.in("Terms 3");
        Says.says("SLIPS of a DEED: 0 none; 1 a CALL left out; 2 a CALL's WAY turned about (4 more, by 8); 3 a CALL exchanged with the next one.");
        slipIs("none", Oak.oneDeed(1010, 1, 5, 1, 405), 0, 0, NONE);
        slipIs("the only one left out", Oak.oneDeed(1010, 1, 5), 0, 1, 0);
        slipIs("the last of ten left out", Oak.oneDeed(1010, 1, 5, 1, 405, 1, 6, 1, 406, 1, 7, 1, 407, 1, 8, 1, 408, 2, 1,
                1, 320), 0, 1, 9);
        for (int way = 0; way < 8; way++) {
            slipIs("the way " + way + " turned about", Oak.oneDeed(1010, 1, 100 * way + 5, 1, 100 * way + 5), 0, 2, 0);
        }
        OakDeeds exchanged = Oak.oneDeed(1010, 1, 610, 3, 1);
        exchanged.stone(10, 20);
        slipIs("exchanged", exchanged, 0, 3, 0);
        OakDeeds last = Oak.oneDeed(1010, 2, 1, 0, 7, 1, 610, 3, 1);
        last.stone(10, 20);
        slipIs("the last two exchanged", last, 0, 3, 2);
        // Only if the last one were exchanged with the first one it would close.
        slipIs("the last one has no next one", Oak.oneDeed(1010, 2, 1, 1, 5, 1, 207), 5, 1, 2);

        Says.says("BEST SLIP: that with the least GAP; of several the first (by 0 .. 3, then by CALLS).");
        slipIs("no calls", Oak.oneDeed(1010), 0, 0, NONE);
        slipIs("none ahead of one left out", Oak.oneDeed(1010, 2, 1), 0, 0, NONE);
        slipIs("none, though all are as good", stoneAndTwo(), 20, 0, NONE);
        slipIs("left out ahead of exchanged", Oak.oneDeed(1010, 2, 1, 1, 3), 0, 1, 1);
        slipIs("left out ahead of turned about", Oak.oneDeed(1010, 1, 3, 1, 403, 1, 6), 0, 1, 2);
        slipIs("the first of two left out", Oak.oneDeed(1010, 1, 3, 1, 3, 1, 403), 0, 1, 0);
        slipIs("the first of two turned about", Oak.oneDeed(1010, 1, 5, 1, 405, 1, 203, 1, 203), 0, 2, 2);
        OakDeeds turned = Oak.oneDeed(1010, 1, 610, 3, 1, 1, 205);
        turned.stone(10, 15);
        slipIs("turned about ahead of exchanged", turned, 0, 2, 2);
        slipIs("the least, not 0", Oak.oneDeed(1010, 1, 9, 1, 7), 2, 2, 0);
        OakDeeds then = Oak.oneDeed(1017, 1, 5);
        slipIs("one left out", then, 0, 1, 0);
        then.call(0, 2, 1);
        slipIs("none, where there was one ahead", then, 0, 0, NONE);
    }

    /** All that its slips change lies ahead of the stone, but for the stone left out: that is as far. */
    private static OakDeeds stoneAndTwo() {
        OakDeeds x = Oak.oneDeed(1010, 1, 20, 3, 1);
        x.stone(10, 30);
        return x;
    }

    private static void slipIs(String what, OakDeeds x, int gap, int which, int call) {
        Says.due(what + ": gap", x.slip(0, 0), gap);
        Says.due(what + ": which", x.slip(0, 1), which);
        Says.due(what + ": call", x.slip(0, 2), call);
    }

    private static void needlesThatClose() {
        Says.says("BEST NEEDLE, BEST CHAIN: the NEEDLE 0 .. 7, the CHAIN -9 .. 9 of a DEED, in place of what counts, with which its GAP is least; of several the least.");
        for (int way = 0; way < 8; way++) {
            OakDeeds x = Oak.oneDeed(1010, 0, 100 * way + 5, 1, 405);
            Oak.text(x, "needle 3");
            Says.due("the needle from the way " + way + " to 0", x.best(0, 0), (8 - way) % 8);
            Says.due("its gap", x.best(0, 1), 0);
        }
        Says.due("all needles alike", Oak.oneDeed(1010, 1, 5).best(0, 0), 0);
        // From (-3, -3) on it comes to (6, -3) by the needle 3, to (-3, 6) by 5, no nearer by others.
        Says.due("two needles alike", Oak.oneDeed(1010, 0, 509, 1, 503).best(0, 0), 3);
        Says.due("their gap", Oak.oneDeed(1010, 0, 509, 1, 503).best(0, 1), 9);
        for (int chain = -9; chain <= 9; chain++) {
            OakDeeds x = chainTo(20, 20 * (100 + chain) / 100);
            int least = -9;
            while (20 * (100 + least) / 100 != 20 * (100 + chain) / 100) {
                least++;
            }
            x.set(0, 1, 3);
            Says.due("the chain by which 20 are " + 20 * (100 + chain) / 100, x.best(0, 2), least);
            Says.due("its gap", x.best(0, 3), 0);
            Oak.text(x, "chain 0-7");
            Says.due("in place of what counts", x.best(0, 2), least);
        }
        // 12 are 13 by 9 alone, 10 by -9 alone.
        Says.due("the longest alone", chainTo(12, 13).best(0, 2), 9);
        Says.due("its gap", chainTo(12, 13).best(0, 3), 0);
        Says.due("the shortest alone", chainTo(12, 10).best(0, 2), -9);
        Says.due("its gap", chainTo(12, 10).best(0, 3), 0);
        Says.due("none is long enough", chainTo(20, 23).best(0, 2), 5);
        Says.due("its gap", chainTo(20, 23).best(0, 3), 2);
        Says.due("none is short enough", chainTo(20, 16).best(0, 2), -9);
        Says.due("its gap", chainTo(20, 16).best(0, 3), 2);
        Says.due("all chains alike", Oak.oneDeed(1010, 2, 1).best(0, 2), -9);

        Says.says("LEARNT of a YEAR: the NEEDLE 0 .. 7, the same for all DEEDS of that YEAR, with which their GAPS together are least; of several the least.");
        OakDeeds x = new OakDeeds();
        x.deed(1010, 7, 0);
        x.deed(1010, 8, 0);
        Oak.addCalls(x, 0, 0, 5, 1, 605);
        Oak.addCalls(x, 1, 0, 9, 1, 9);
        Says.due("of the one", x.learn(7), 2);
        Says.due("of the other", x.learn(8), 4);
        x.set(1, 0, 7);
        Says.due("of both: 10 by 4, 18 by 2, 14 by 3", x.learn(7), 4);
        Oak.text(x, "needle 1");
        Says.due("in place of what counts", x.learn(7), 4);
        for (int way = 0; way < 8; way++) {
            OakDeeds one = Oak.oneDeed(1010, 0, 100 * way + 5, 1, 405);
            Says.due("the needle from the way " + way + " to 0", one.learn(0), (8 - way) % 8);
        }
        Says.due("all alike", Oak.oneDeed(1010, 0, 20).learn(0), 0);
        Says.due("two alike", Oak.oneDeed(1010, 0, 509, 1, 503).learn(0), 3);
    }

    /** To a stone so far to the right, and back by a call of a length. */
    private static OakDeeds chainTo(int length, int far) {
        OakDeeds x = Oak.oneDeed(1012, 3, 1, 0, 400 + length);
        x.stone(10 + far, 12);
        return x;
    }

    private static void nearAndDraws() {
        Says.says("NEAR a STONE: of all CORNERS of all DEEDS that from which it is least far (x and y by which they differ, their signs left out, together); of several the first (by DEEDS, then CORNERS).");
        OakDeeds x = new OakDeeds();
        x.stone(20, 8);
        Oak.rectangle(x, 505, 0, 10, 6);
        Says.due("of two corners the first", x.near(0, 0), 1);
        Says.due("how far", x.near(0, 1), 8);
        x.move(0, 4, 3);
        Says.due("the beginning, not the last corner that lies there too", x.near(0, 0), 0);
        x.deed(1925, 0, 0);
        x.deed(303, 0, 0);
        x.deed(505, 0, 0);
        Says.due("of all deeds", x.near(0, 0), 200);
        Says.due("how far", x.near(0, 1), 1);
        x.move(0, 4, 4);
        Says.due("of several the first", x.near(0, 0), 0);
        x.move(0, 99, 99);
        Says.due("far off", x.near(0, 0), 100);
        Says.due("how far", x.near(0, 1), 154);
        x.move(0, -99, -99);
        Says.due("far off", x.near(0, 0), 200);
        Says.due("how far", x.near(0, 1), 204);
        OakDeeds ten = Oak.oneDeed(0, 1, 120, 1, 120, 1, 120, 1, 120, 1, 120, 1, 120, 1, 120, 1, 120, 1, 120, 1, 120);
        ten.stone(99, 99);
        Says.due("between them", ten.near(0, 0), 5);
        ten.stone(99, -99);
        Says.due("as far from several", ten.near(1, 0), 0);

        Says.says("z is told (1 at first).");
        Says.due("z", new OakDeeds().count(6), 1);
        Says.due("what it was", new OakDeeds().seed(5), 1);

        Says.says("A draw: z becomes z * 1103515245 + 12345 (an int); it gives z >>> 8.");
        for (int z : new int[] {0, 1, -1, Oak.LOW, Oak.HIGH, 77, -123456789, 2024}) {
            OakDeeds drawn = Oak.oneDeed(0);
            drawn.seed(z);
            drawn.deal(0, 1);
            int one = z * 1103515245 + 12345;
            int two = one * 1103515245 + 12345;
            int three = two * 1103515245 + 12345;
            Says.due("z after three draws", drawn.count(6), three);
            Says.due("what the first one gives, by 3", drawn.told(0, 0, 0), (one >>> 8) % 3);
            Says.due("what the third one gives, by 12", drawn.told(0, 0, 2), 1 + (three >>> 8) % 12);
        }

        Says.says("A CALL that is drawn: KIND the rest of a draw by 3, WAY that of one more by 8, LENGTH 1 and that of one more by 12.");
        int z = 1;
        OakDeeds four = new OakDeeds();
        for (int d = 0; d < 4; d++) {
            four.deed(0, 0, 0);
            four.deal(d, 10);
            for (int i = 0; i < 10; i++) {
                int[] by = {3, 8, 12};
                for (int what = 0; what < 3; what++) {
                    z = z * 1103515245 + 12345;
                    int due = (z >>> 8) % by[what] + what / 2;
                    Says.due("told " + what + " of the call " + i, four.told(d, i, what), due);
                }
            }
        }
    }
}
