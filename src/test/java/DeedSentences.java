/** The sentences of the promises 1 to 14, on stones, deeds and calls: a test for each. */
final class DeedSentences {
    private static final int BAD = Oak.BAD, NO = Oak.NO, FULL = Oak.FULL, NONE = Oak.NONE;
    private static final int NOTHING = Oak.NOTHING, KIND = Oak.KIND;

    /** Beginnings and cells that are none, some of them only by x or by y. */
    static final int[] NO_CELLS = {-1, -100, -71, 30, 99, 130, 1030, 2930, 2999, 3000, 3029, 65536, Oak.LOW, Oak.HIGH};

    private DeedSentences() {
    }

    static void run() {
        newObject();
        stones();
        deeds();
        changes();
        calls();
        kinds();
        drops();
        deals();
    }

    private static void newObject() {
        Says.in("Promise 1");
        Says.says("`OakDeeds()`: As told; no DEEDS.");
        OakDeeds x = new OakDeeds();
        Says.due("no deeds", x.count(1), 0);
        for (int what : new int[] {0, 2, 3, 4, 5}) {
            Says.due("count " + what, x.count(what), 0);
        }
        Says.due("z", x.count(6), 1);
        Says.due("no deed 0", x.deedTold(0, 0), BAD);
        Says.due("no stone 0", x.stoneTold(0, 0), BAD);
        Says.due("no texts", x.why(0), NONE);
        Says.due("all is nobody's", x.owned(-1), 900);
        Says.due("no image", x.back(), NO);
        for (int i = 0; i < 4; i++) {
            Says.due("sheets are missing", x.lay(0, 2, i), NOTHING);
        }
        for (int i = 0; i < 5; i++) {
            Says.due("slots hold nothing", x.rest(i, 1), NOTHING);
        }
        // Objects know nothing of one another.
        OakDeeds one = new OakDeeds();
        OakDeeds other = new OakDeeds();
        one.deed(0, 0, 0);
        Says.due("no deeds of another object", other.count(1), 0);
    }

    private static void stones() {
        Says.in("Promise 2");
        Says.says("`int stone(int x, int y)`: One more STONE: its number.");
        OakDeeds x = new OakDeeds();
        for (int i = 0; i < 8; i++) {
            Says.due("a stone", x.stone(12 * i - 40, 30 - 9 * i), i);
            Says.due("one more", x.count(0), i + 1);
        }
        for (int i = 0; i < 8; i++) {
            Says.due("x of " + i, x.stoneTold(i, 0), 12 * i - 40);
            Says.due("y of " + i, x.stoneTold(i, 1), 30 - 9 * i);
        }
        Says.due("two at one place", Oak.world().stone(9, 9), 3);

        Says.says("BAD; FULL.");
        for (int at : Says.outside(-99, 99)) {
            Says.refused("stone at x " + at, y -> y.stone(at, 0), BAD);
            Says.refused("stone at y " + at, y -> y.stone(0, at), BAD);
            Says.refusedAfter("a ninth at x " + at, TermSentences::fillStones, y -> y.stone(at, 0), BAD);
        }
        Says.refusedAfter("a ninth", TermSentences::fillStones, y -> y.stone(-99, 99), FULL);

        Says.in("Promise 3");
        Says.says("`int stoneTold(int stone, int what)`: x (what 0), y (1) of a STONE.");
        OakDeeds told = new OakDeeds();
        told.stone(-99, 99);
        told.stone(0, -1);
        Says.due("x of 0", told.stoneTold(0, 0), -99);
        Says.due("y of 0", told.stoneTold(0, 1), 99);
        Says.due("x of 1", told.stoneTold(1, 0), 0);
        Says.due("y of 1", told.stoneTold(1, 1), -1);

        Says.says("BAD.");
        for (int stone : Says.outside(0, 2)) {
            Says.refused("stone " + stone, y -> y.stoneTold(stone, 0), BAD);
        }
        for (int what : Says.outside(0, 1)) {
            Says.refused("what " + what, y -> y.stoneTold(0, what), BAD);
        }
        Says.refusedAfter("stone 8 of 8", TermSentences::fillStones, y -> y.stoneTold(8, 0), BAD);
        Says.due("there are none", new OakDeeds().stoneTold(0, 0), BAD);

        Says.in("Promise 4");
        Says.says("`int move(int stone, int x, int y)`: A STONE is moved: how far (x and y by which it differs, their signs left out, together).");
        OakDeeds moved = new OakDeeds();
        moved.stone(0, 0);
        moved.stone(-99, -99);
        int[][] to = {{5, 0}, {5, -7}, {-5, 7}, {-5, 7}, {-99, 99}, {99, -99}, {99, 98}};
        int[] far = {5, 7, 24, 0, 186, 396, 197};
        for (int i = 0; i < to.length; i++) {
            Says.due("to " + to[i][0] + ", " + to[i][1], moved.move(0, to[i][0], to[i][1]), far[i]);
            Says.due("x then", moved.stoneTold(0, 0), to[i][0]);
            Says.due("y then", moved.stoneTold(0, 1), to[i][1]);
        }
        Says.due("the other has not moved", moved.stoneTold(1, 0), -99);

        Says.says("BAD.");
        for (int stone : Says.outside(0, 2)) {
            Says.refused("stone " + stone, y -> y.move(stone, 0, 0), BAD);
        }
        for (int at : Says.outside(-99, 99)) {
            Says.refused("to x " + at, y -> y.move(0, at, 0), BAD);
            Says.refused("to y " + at, y -> y.move(0, 0, at), BAD);
        }
        Says.due("there are none", new OakDeeds().move(0, 0, 0), BAD);
    }

    private static void deeds() {
        Says.in("Promise 5");
        Says.says("`int deed(int begins, int year, int slack)`: One more DEED (begins: 100 times x, and y): its number.");
        OakDeeds x = new OakDeeds();
        int[] begins = {0, 29, 2900, 2929};
        int[] years = {0, 999, 1, 998};
        int[] slacks = {-9, 9, 0, -1};
        for (int i = 0; i < 4; i++) {
            Says.due("a deed", x.deed(begins[i], years[i], slacks[i]), i);
            Says.due("one more", x.count(1), i + 1);
            int[] told = {begins[i] / 100, begins[i] % 100, years[i], slacks[i], 0};
            for (int what = 0; what < told.length; what++) {
                Says.due("told " + what, x.deedTold(i, what), told[what]);
            }
        }
        OakDeeds again = new OakDeeds();
        again.keep();
        again.deed(0, 0, 0);
        again.deal(0, 10);
        again.back();
        again.deed(0, 0, 0);
        Says.due("no calls of one that is no more", again.deedTold(0, 4), 0);

        Says.says("BAD; FULL.");
        for (int cell : NO_CELLS) {
            Says.refused("begins " + cell, y -> y.deed(cell, 0, 0), BAD);
            Says.refusedAfter("a fifth that begins " + cell, TermSentences::fillDeeds, y -> y.deed(cell, 0, 0), BAD);
        }
        for (int year : Says.outside(0, 999)) {
            Says.refused("year " + year, y -> y.deed(0, year, 0), BAD);
        }
        for (int slack : Says.outside(-9, 9)) {
            Says.refused("slack " + slack, y -> y.deed(0, 0, slack), BAD);
        }
        Says.refusedAfter("a fifth", TermSentences::fillDeeds, y -> y.deed(0, 0, 0), FULL);

        Says.in("Promise 6");
        Says.says("`int deedTold(int deed, int what)`: Of a DEED: what 0 x, 1 y of the BEGINNING, 2 YEAR, 3 SLACK, 4 how many CALLS, 5 NEEDLE, 6 CHAIN, 7 RANK.");
        OakDeeds t = new OakDeeds();
        t.deed(0, 0, 0);
        t.deed(1703, 612, -4);
        Oak.addCalls(t, 1, 0, 1, 2, 1, 5, 1);
        int[] without = {17, 3, 612, -4, 3, 0, -4, 612};
        for (int what = 0; what < 8; what++) {
            Says.due("without texts, what " + what, t.deedTold(1, what), without[what]);
        }
        Oak.text(t, "needle 0-1");
        Oak.text(t, "chain s*3");
        Oak.text(t, "first 0-n-c*1000");
        int[] with = {17, 3, 612, -4, 3, 7, -9, -3001};
        for (int what = 0; what < 8; what++) {
            Says.due("with texts, what " + what, t.deedTold(1, what), with[what]);
        }

        Says.says("BAD.");
        for (int deed : Says.outside(0, 1)) {
            Says.refused("deed " + deed, y -> y.deedTold(deed, 0), BAD);
        }
        for (int what : Says.outside(0, 7)) {
            Says.refused("what " + what, y -> y.deedTold(0, what), BAD);
        }
        Says.refusedAfter("deed 4 of 4", TermSentences::fillDeeds, y -> y.deedTold(4, 0), BAD);
        Says.due("there are none", new OakDeeds().deedTold(0, 0), BAD);
    }

    private static void changes() {
        Says.in("Promise 7");
        Says.says("`int set(int deed, int what, int v)`: YEAR (what 0), SLACK (1), the BEGINNING (2: 100 times x, and y) of a DEED becomes v: what it was.");
        OakDeeds x = new OakDeeds();
        x.deed(2907, 999, -9);
        x.deed(0, 0, 0);
        int[][] sets = {{0, 0}, {0, 999}, {0, 5}, {1, 9}, {1, 0}, {1, -9}, {2, 0}, {2, 29}, {2, 2900}, {2, 2929}};
        int[] was = {999, 0, 999, -9, 9, 0, 2907, 0, 29, 2900};
        for (int i = 0; i < sets.length; i++) {
            Says.due("set " + sets[i][0] + " to " + sets[i][1], x.set(0, sets[i][0], sets[i][1]), was[i]);
        }
        int[] told = {29, 29, 5, -9};
        for (int what = 0; what < 4; what++) {
            Says.due("told " + what + " then", x.deedTold(0, what), told[what]);
            Says.due("of the other", x.deedTold(1, what), 0);
        }

        Says.says("BAD.");
        for (int deed : Says.outside(0, 1)) {
            Says.refused("deed " + deed, y -> y.set(deed, 0, 0), BAD);
        }
        for (int what : Says.outside(0, 2)) {
            Says.refused("what " + what, y -> y.set(0, what, 0), BAD);
        }
        for (int year : Says.outside(0, 999)) {
            Says.refused("year " + year, y -> y.set(0, 0, year), BAD);
        }
        for (int slack : Says.outside(-9, 9)) {
            Says.refused("slack " + slack, y -> y.set(0, 1, slack), BAD);
        }
        for (int cell : NO_CELLS) {
            Says.refused("beginning " + cell, y -> y.set(0, 2, cell), BAD);
        }
        Says.due("there are none", new OakDeeds().set(0, 0, 0), BAD);
    }

    private static void calls() {
        Says.in("Promise 8");
        Says.says("`int call(int deed, int kind, int run)`: One more CALL of a DEED (run: 100 times WAY, and LENGTH): its number.");
        OakDeeds x = new OakDeeds();
        x.deed(0, 0, 0);
        x.deed(0, 0, 0);
        int[] runs = {1, 20, 101, 120, 219, 302, 417, 511, 701, 720};
        for (int i = 0; i < 10; i++) {
            Says.due("a call", x.call(1, i % 6, runs[i]), i);
            Says.due("one more", x.deedTold(1, 4), i + 1);
            Says.due("none of the other", x.deedTold(0, 4), 0);
        }
        for (int i = 0; i < 10; i++) {
            Says.due("kind of " + i, x.told(1, i, 0), i % 6);
            Says.due("way of " + i, x.told(1, i, 1), runs[i] / 100);
            Says.due("length of " + i, x.told(1, i, 2), runs[i] % 100);
        }

        Says.says("BAD; FULL.");
        for (int deed : Says.outside(0, 1)) {
            Says.refused("deed " + deed, y -> y.call(deed, 0, 1), BAD);
        }
        for (int kind : Says.outside(0, 5)) {
            Says.refused("kind " + kind, y -> y.call(0, kind, 1), BAD);
            Says.refusedAfter("an eleventh of the kind " + kind, y -> TermSentences.fillCalls(y, 0),
                    y -> y.call(0, kind, 1), BAD);
        }
        for (int run : new int[] {0, 21, 99, 100, 121, 199, 700, 721, 800, 801, 820, -1, -99, -101, Oak.LOW, Oak.HIGH}) {
            Says.refused("run " + run, y -> y.call(0, 0, run), BAD);
            Says.refusedAfter("an eleventh with the run " + run, y -> TermSentences.fillCalls(y, 1),
                    y -> y.call(1, 0, run), BAD);
        }
        Says.refusedAfter("an eleventh", y -> TermSentences.fillCalls(y, 0), y -> y.call(0, 0, 1), FULL);
        Says.refusedAfter("an eleventh of the other", y -> TermSentences.fillCalls(y, 1), y -> y.call(1, 5, 720), FULL);
        Says.due("there are no deeds", new OakDeeds().call(0, 0, 1), BAD);

        Says.in("Promise 9");
        Says.says("`int told(int deed, int call, int what)`: Of a CALL: what 0 KIND, 1 WAY, 2 LENGTH, 3 TRUE, 4 WORTH.");
        OakDeeds t = new OakDeeds();
        t.deed(0, 0, 0);
        t.deed(0, 0, 9);
        Oak.addCalls(t, 1, 0, 720, 1, 319, 2, 218, 3, 617, 4, 516, 5, 415);
        int[][] due = {{0, 7, 20, 21, 20}, {1, 3, 19, 20, 22}, {2, 2, 18, 19, 50}, {3, 6, 17, 18, 46}, {4, 5, 16, 17, 66},
            {5, 4, 15, 16, -15}};
        for (int i = 0; i < 6; i++) {
            for (int what = 0; what < 5; what++) {
                Says.due("call " + i + ", what " + what, t.told(1, i, what), due[i][what]);
            }
        }

        Says.says("BAD.");
        for (int deed : Says.outside(0, 1)) {
            Says.refused("deed " + deed, y -> y.told(deed, 0, 0), BAD);
        }
        for (int call : Says.outside(0, 5)) {
            Says.refused("call " + call, y -> y.told(0, call, 0), BAD);
        }
        for (int what : Says.outside(0, 4)) {
            Says.refused("what " + what, y -> y.told(0, 0, what), BAD);
        }
        Says.refusedAfter("call 10 of 10", y -> TermSentences.fillCalls(y, 0), y -> y.told(0, 10, 0), BAD);
        Says.due("of no calls", Oak.oneDeed(0).told(0, 0, 0), BAD);
    }

    private static void kinds() {
        Says.in("Promise 10");
        Says.says("`int as(int deed, int call, int kind)`: A CALL as one of a KIND: LENGTH.");
        OakDeeds x = Oak.oneDeed(0, 0, 720, 1, 319, 2, 218, 3, 617, 4, 516, 5, 401);
        int[][] pairs = {{0, 0}, {1, 0}, {1, 1}, {2, 0}, {2, 2}, {3, 0}, {3, 1}, {3, 3}, {4, 0}, {4, 2}, {4, 4}, {5, 0},
            {5, 5}};
        int[] lengths = {20, 19, 18, 17, 16, 1};
        for (int[] pair : pairs) {
            Says.due("call " + pair[0] + " as " + pair[1], x.as(0, pair[0], pair[1]), lengths[pair[0]]);
        }

        Says.says("BAD: deed, call, kind; KIND: it is not of that KIND, nor of one under it.");
        for (int deed : Says.outside(0, 1)) {
            Says.refused("deed " + deed, y -> y.as(deed, 0, 0), BAD);
        }
        for (int call : Says.outside(0, 5)) {
            Says.refused("call " + call, y -> y.as(0, call, 5), BAD);
        }
        for (int kind : Says.outside(0, 5)) {
            Says.refused("kind " + kind, y -> y.as(0, 0, kind), BAD);
        }
        int[][] not = {{0, 1}, {0, 2}, {0, 3}, {0, 4}, {0, 5}, {1, 2}, {1, 3}, {1, 4}, {1, 5}, {2, 1}, {2, 3}, {2, 4},
            {2, 5}, {3, 2}, {3, 4}, {3, 5}, {4, 1}, {4, 3}, {4, 5}, {5, 1}, {5, 2}, {5, 3}, {5, 4}};
        for (int[] pair : not) {
            Says.refused("call " + pair[0] + " as " + pair[1], y -> y.as(0, pair[0], pair[1]), KIND);
        }

        Says.in("Promise 11");
        Says.says("`int turns(int deed, int call, int kind)`: A CALL is of another KIND from now on: what it was.");
        for (int was = 0; was < 6; was++) {
            for (int kind = 0; kind < 6; kind++) {
                OakDeeds t = Oak.oneDeed(1010, was, 307, was, 308);
                Says.due("from " + was + " to " + kind, t.turns(0, 1, kind), was);
                Says.due("kind from now on", t.told(0, 1, 0), kind);
                Says.due("way stays", t.told(0, 1, 1), 3);
                Says.due("length stays", t.told(0, 1, 2), 8);
                Says.due("the other stays", t.told(0, 0, 0), was);
            }
        }
        OakDeeds ends = Oak.oneDeed(1010, 0, 307);
        ends.turns(0, 0, 2);
        Says.due("it ends otherwise", ends.corner(0, 1, 0), 10);

        Says.says("BAD.");
        for (int deed : Says.outside(0, 1)) {
            Says.refused("deed " + deed, y -> y.turns(deed, 0, 1), BAD);
        }
        for (int call : Says.outside(0, 5)) {
            Says.refused("call " + call, y -> y.turns(0, call, 1), BAD);
        }
        for (int kind : Says.outside(0, 5)) {
            Says.refused("kind " + kind, y -> y.turns(0, 0, kind), BAD);
        }
        Says.due("of no calls", Oak.oneDeed(0).turns(0, 0, 0), BAD);
    }

    private static void drops() {
        Says.in("Promise 12");
        Says.says("`int drop(int deed, int call)`: A CALL goes; those with greater numbers have one less: how many there are.");
        for (int gone = 0; gone < 10; gone++) {
            OakDeeds x = Oak.oneDeed(0);
            x.deed(0, 0, 0);
            x.call(1, 3, 505);
            for (int i = 0; i < 10; i++) {
                x.call(0, i % 6, 100 * (i % 8) + 1 + i);
            }
            Says.due("the call " + gone + " goes", x.drop(0, gone), 9);
            for (int i = 0; i < 9; i++) {
                int was = i < gone ? i : i + 1;
                Says.due("kind of " + i, x.told(0, i, 0), was % 6);
                Says.due("way of " + i, x.told(0, i, 1), was % 8);
                Says.due("length of " + i, x.told(0, i, 2), 1 + was);
            }
            Says.due("no call 9", x.told(0, 9, 0), BAD);
            Says.due("none of the other goes", x.deedTold(1, 4), 1);
            Says.due("there is room for one", x.call(0, 0, 1), 9);
        }
        OakDeeds all = Oak.oneDeed(0, 0, 1, 0, 2, 0, 3);
        for (int left = 2; left >= 0; left--) {
            Says.due("one after the other", all.drop(0, 0), left);
        }

        Says.says("BAD.");
        for (int deed : Says.outside(0, 1)) {
            Says.refused("deed " + deed, y -> y.drop(deed, 0), BAD);
        }
        for (int call : Says.outside(0, 5)) {
            Says.refused("call " + call, y -> y.drop(0, call), BAD);
        }
        Says.due("none is left", all.drop(0, 0), BAD);
        Says.due("there are no deeds", new OakDeeds().drop(0, 0), BAD);
    }

    private static void deals() {
        Says.in("Promise 13");
        Says.says("`int deal(int deed, int n)`: CALLS of a DEED are drawn, n (1 .. 10) of them, as many as there is room for (no draws for others): how many came.");
        for (int has = 0; has <= 10; has++) {
            for (int n = 1; n <= 10; n++) {
                OakDeeds x = Oak.oneDeed(0);
                for (int i = 0; i < has; i++) {
                    x.call(0, 5, 720);
                }
                int came = Math.min(n, 10 - has);
                Says.due(n + " to " + has, x.deal(0, n), came);
                Says.due("calls then", x.deedTold(0, 4), has + came);
                int z = 1;
                for (int i = 0; i < 3 * came; i++) {
                    z = z * 1103515245 + 12345;
                }
                Says.due("z after three draws for each", x.count(6), z);
                Says.due("what was there stays", x.told(0, 0, 0) == 5, has > 0);
            }
        }

        Says.says("BAD.");
        for (int deed : Says.outside(0, 1)) {
            Says.refused("deed " + deed, y -> y.deal(deed, 1), BAD);
        }
        for (int n : Says.outside(1, 10)) {
            Says.refused("n " + n, y -> y.deal(0, n), BAD);
            Says.refusedAfter("no room, and n " + n, y -> TermSentences.fillCalls(y, 0), y -> y.deal(0, n), BAD);
        }
        Says.due("there are no deeds", new OakDeeds().deal(0, 1), BAD);

        Says.in("Promise 14");
        Says.says("`int seed(int v)`: z becomes v: what it was.");
        OakDeeds x = new OakDeeds();
        int was = 1;
        for (int v : new int[] {0, -1, Oak.LOW, Oak.HIGH, BAD, NONE, 1, 5, 5}) {
            Says.due("z becomes " + v, x.seed(v), was);
            Says.due("z", x.count(6), v);
            was = v;
        }
        x.deed(0, 0, 0);
        x.deal(0, 1);
        int z = 5;
        for (int i = 0; i < 3; i++) {
            z = z * 1103515245 + 12345;
        }
        Says.due("what draws made of it", x.seed(0), z);
    }
}
