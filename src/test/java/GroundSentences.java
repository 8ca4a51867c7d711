/** The sentences of the promises 15 to 27, on what deeds hold and which slip, needle, chain, stone: a test for each. */
final class GroundSentences {
    private static final int BAD = Oak.BAD, NONE = Oak.NONE;

    private GroundSentences() {
    }

    static void run() {
        corners();
        gapAndArea();
        holdings();
        owners();
        slips();
        needles();
        near();
        would();
    }

    private static void corners() {
        Says.in("Promise 15");
        Says.says("`int corner(int deed, int i, int what)`: x (what 0), y (1) of CORNER i of a DEED.");
        OakDeeds x = new OakDeeds();
        x.deed(0, 0, 0);
        x.deed(2912, 0, 0);
        for (int i = 1; i <= 10; i++) {
            x.call(1, 1, 520);
        }
        for (int i = 0; i <= 10; i++) {
            Says.due("x of the corner " + i, x.corner(1, i, 0), 29 - 20 * i);
            Says.due("y of the corner " + i, x.corner(1, i, 1), 12 - 20 * i);
        }
        Says.due("of the other deed", x.corner(0, 0, 0), 0);

        Says.says("BAD: deed, i below 0, what; NONE: there is no such CORNER.");
        for (int deed : Says.outside(0, 1)) {
            Says.refused("deed " + deed, y -> y.corner(deed, 99, 0), BAD);
        }
        for (int i : new int[] {-1, -2, -256, Oak.LOW}) {
            Says.refused("corner " + i, y -> y.corner(0, i, 0), BAD);
        }
        for (int what : Says.outside(0, 1)) {
            Says.refused("what " + what, y -> y.corner(0, 0, what), BAD);
            Says.refused("no such corner, what " + what, y -> y.corner(0, 7, what), BAD);
        }
        for (int i : new int[] {7, 8, 10, 11, 256, 65536, Oak.HIGH}) {
            Says.refused("corner " + i, y -> y.corner(0, i, 1), NONE);
        }
        for (int calls = 0; calls <= 10; calls++) {
            OakDeeds c = Oak.oneDeed(0);
            for (int i = 0; i < calls; i++) {
                c.call(0, 1, 20);
            }
            Says.due("the last of " + calls + " calls", c.corner(0, calls, 0), 20 * calls);
            Says.due("behind the last of " + calls + " calls", c.corner(0, calls + 1, 0), NONE);
        }
        Says.due("there are no deeds", new OakDeeds().corner(0, 0, 0), BAD);
    }

    private static void gapAndArea() {
        Says.in("Promise 16");
        Says.says("`int gap(int deed)`: GAP.");
        OakDeeds x = new OakDeeds();
        x.deed(1010, 0, 0);
        x.deed(1010, 0, 0);
        Oak.addCalls(x, 1, 1, 5, 1, 607);
        Says.due("of no calls", x.gap(0), 0);
        Says.due("of two calls", x.gap(1), 12);
        x.call(1, 1, 405);
        Says.due("of three calls", x.gap(1), 7);
        x.call(1, 2, 1);
        Says.due("closed", x.gap(1), 0);
        Says.says("BAD.");
        refusedDeeds("gap", OakDeeds::gap);

        Says.in("Promise 17");
        Says.says("`int area(int deed)`: AREA.");
        OakDeeds a = new OakDeeds();
        Oak.rectangle(a, 505, 0, 10, 6);
        a.deed(505, 0, 0);
        Oak.addCalls(a, 1, 1, 206, 1, 10, 1, 606);
        Says.due("one way about", a.area(0), 120);
        Says.due("the other way about", a.area(1), -120);
        a.drop(1, 2);
        Says.due("closed by its last side", a.area(1), -60);
        Says.says("BAD.");
        refusedDeeds("area", OakDeeds::area);
    }

    private interface OfDeed {
        int asked(OakDeeds x, int deed);
    }

    private static void refusedDeeds(String call, OfDeed of) {
        for (int deed : Says.outside(0, 1)) {
            Says.refused(call + " of the deed " + deed, y -> of.asked(y, deed), BAD);
        }
        Says.refusedAfter(call + " of the deed 4 of 4", TermSentences::fillDeeds, y -> of.asked(y, 4), BAD);
        Says.due(call + " where there are no deeds", of.asked(new OakDeeds(), 0), BAD);
    }

    private static void holdings() {
        Says.in("Promise 18");
        Says.says("`int holds(int deed, int cell)`: Whether a DEED HOLDS a CELL (100 times x, and y): 1, 0.");
        OakDeeds x = new OakDeeds();
        Oak.rectangle(x, 0, 0, 2, 3);
        Oak.rectangle(x, 2726, 0, 3, 4);
        for (int at = 0; at < 30; at++) {
            for (int y = 0; y < 30; y += 4) {
                int cell = 100 * at + y;
                Says.due("the first holds " + cell, x.holds(0, cell), at < 2 && y < 3 ? 1 : 0);
            }
        }
        for (int at = 24; at < 30; at++) {
            for (int y = 24; y < 30; y++) {
                int cell = 100 * at + y;
                Says.due("the other holds " + cell, x.holds(1, cell), at >= 27 && y >= 26 ? 1 : 0);
            }
        }
        Says.says("BAD.");
        refusedDeeds("holds", (y, deed) -> y.holds(deed, 505));
        for (int cell : DeedSentences.NO_CELLS) {
            Says.refused("cell " + cell, y -> y.holds(0, cell), BAD);
        }

        Says.in("Promise 19");
        Says.says("`int field(int deed)`: How many CELLS a DEED HOLDS.");
        Says.due("the first", x.field(0), 6);
        Says.due("the other", x.field(1), 12);
        Says.due("all", TermSentences.wholeGround().field(0), 900);
        Says.due("none", Oak.oneDeed(1515).field(0), 0);
        OakDeeds beyond = Oak.oneDeed(2929, 1, 20, 1, 220, 1, 420);
        Says.due("those beyond the last do not count", beyond.field(0), 1);
        OakDeeds below = Oak.oneDeed(0, 1, 420, 1, 620, 1, 20);
        Says.due("those ahead of the first do not count", below.field(0), 0);
        Says.says("BAD.");
        refusedDeeds("field", OakDeeds::field);

        Says.in("Promise 20");
        Says.says("`int over(int one, int other)`: How many CELLS two unlike DEEDS both HOLD.");
        OakDeeds o = new OakDeeds();
        Oak.rectangle(o, 505, 0, 10, 6);
        Oak.rectangle(o, 808, 9, 8, 8);
        Oak.rectangle(o, 1505, 0, 3, 3);
        o.deed(0, 0, 0);
        Says.due("0 and 1", o.over(0, 1), 21);
        Says.due("1 and 0", o.over(1, 0), 21);
        Says.due("side by side", o.over(0, 2), 0);
        Says.due("1 and 2", o.over(2, 1), 0);
        Says.due("one that holds none", o.over(3, 1), 0);
        o.set(2, 2, 808);
        Says.due("one within the other", o.over(1, 2), 9);
        OakDeeds all = TermSentences.wholeGround();
        all.deed(0, 0, 0);
        Oak.addCalls(all, 1, 3, 1, 3, 2, 3, 3);
        Says.due("all", all.over(0, 1), 900);

        Says.says("BAD.");
        for (int deed : Says.outside(0, 1)) {
            Says.refused("over " + deed + ", 0", y -> y.over(deed, 0), BAD);
            Says.refused("over 0, " + deed, y -> y.over(0, deed), BAD);
            Says.refused("over " + deed + " twice", y -> y.over(deed, deed), BAD);
        }
        Says.refused("0 and itself", y -> y.over(0, 0), BAD);
        Says.refused("1 and itself", y -> y.over(1, 1), BAD);
    }

    private static void owners() {
        Says.in("Promise 21");
        Says.says("`int whose(int cell)`: WHOSE a CELL is.");
        OakDeeds x = new OakDeeds();
        Oak.rectangle(x, 0, 9, 20, 20);
        Oak.rectangle(x, 1000, 8, 19, 20);
        Oak.rectangle(x, 1010, 7, 19, 19);
        Oak.rectangle(x, 2828, 999, 2, 2);
        int[] cells = {0, 919, 1000, 1009, 1909, 2000, 1010, 1919, 2010, 2828, 2829, 2928, 2929};
        int[] due = {0, 0, 1, 1, 1, 1, 2, 2, 2, 2, 3, 3, 3};
        for (int i = 0; i < cells.length; i++) {
            Says.due("whose " + cells[i] + " is", x.whose(cells[i]), due[i]);
        }

        Says.says("BAD; NONE: nobody's.");
        for (int cell : DeedSentences.NO_CELLS) {
            Says.refused("cell " + cell, y -> y.whose(cell), BAD);
        }
        Says.refused("a cell that none holds", y -> y.whose(2929), NONE);
        Says.due("beside all", x.whose(920), NONE);
        Says.due("beside all", x.whose(2900), NONE);
        Says.due("there are no deeds", new OakDeeds().whose(0), NONE);

        Says.in("Promise 22");
        Says.says("`int owned(int deed)`: How many CELLS are a DEED's (deed -1: nobody's).");
        // 400, less 10 * 20 of the second; 19 * 20, less 19 * 10 of the third; 19 * 19; 4, less 1 of the third.
        int[] owned = {200, 190, 361, 3};
        for (int d = 0; d < 4; d++) {
            Says.due("of " + d, x.owned(d), owned[d]);
        }
        Says.due("nobody's", x.owned(-1), 900 - 754);
        Says.due("no deeds: nobody's", new OakDeeds().owned(-1), 900);
        Says.due("one's", TermSentences.wholeGround().owned(0), 900);
        Says.due("none is left", TermSentences.wholeGround().owned(-1), 0);
        Says.says("BAD: below -1, no such DEED.");
        for (int deed : Says.outside(-1, 1)) {
            Says.refused("owned by " + deed, y -> y.owned(deed), BAD);
        }
        Says.refusedAfter("deed 4 of 4", TermSentences::fillDeeds, y -> y.owned(4), BAD);
        Says.due("there are no deeds", new OakDeeds().owned(0), BAD);
    }

    private static void slips() {
        Says.in("Promise 23");
        Says.says("`int slip(int deed, int what)`: BEST SLIP of a DEED: what 0 its GAP, 1 which (0 .. 3), 2 the CALL (NONE by 0).");
        OakDeeds x = new OakDeeds();
        x.stone(10, 20);
        x.deed(1010, 0, 0);
        x.deed(1010, 0, 0);
        x.deed(1010, 0, 0);
        x.deed(1010, 0, 0);
        Oak.addCalls(x, 0, 3, 1);
        x.call(0, 1, 603);
        Oak.addCalls(x, 1, 1, 5, 1, 405, 1, 310);
        Oak.addCalls(x, 2, 1, 5, 1, 205, 1, 205, 1, 405);
        Oak.addCalls(x, 3, 1, 610, 3, 1);
        // To the stone and 3 back: 7; without the stone: 3; without the 3: 10; turned about: 13; exchanged: 10.
        int[][] due = {{3, 1, 0}, {0, 1, 2}, {0, 2, 1}, {0, 3, 0}};
        for (int d = 0; d < 4; d++) {
            for (int what = 0; what < 3; what++) {
                Says.due("deed " + d + ", what " + what, x.slip(d, what), due[d][what]);
            }
        }
        OakDeeds closed = Oak.oneDeed(1010, 1, 5, 1, 405);
        Says.due("none: its gap", closed.slip(0, 0), 0);
        Says.due("none", closed.slip(0, 1), 0);
        Says.due("none: no call", closed.slip(0, 2), NONE);
        Says.due("of no calls", Oak.oneDeed(0).slip(0, 2), NONE);

        Says.says("BAD.");
        refusedDeeds("slip", (y, deed) -> y.slip(deed, 0));
        for (int what : Says.outside(0, 2)) {
            Says.refused("what " + what, y -> y.slip(0, what), BAD);
        }
    }

    private static void needles() {
        Says.in("Promise 24");
        Says.says("`int best(int deed, int what)`: BEST NEEDLE (what 0), the GAP with it (1), BEST CHAIN (2), the GAP with it (3).");
        OakDeeds x = new OakDeeds();
        x.deed(0, 0, 0);
        x.deed(1010, 7, 3);
        Oak.addCalls(x, 1, 0, 5, 1, 605);
        int[] due = {2, 0, -9, 8};
        for (int what = 0; what < 4; what++) {
            Says.due("what " + what, x.best(1, what), due[what]);
        }
        // Of no calls all are alike.
        int[] none = {0, 0, -9, 0};
        for (int what = 0; what < 4; what++) {
            Says.due("of no calls, what " + what, x.best(0, what), none[what]);
        }
        Oak.text(x, "needle 2");
        Says.due("the chain by the needle that counts", x.best(1, 3), 0);
        OakDeeds c = Oak.oneDeed(1010, 0, 20, 1, 620);
        Oak.text(c, "chain 9");
        Says.due("the needle by the chain that counts", c.best(0, 0), 2);
        OakDeeds s = Oak.oneDeed(1010, 3, 1, 0, 420);
        s.stone(31, 10);
        Oak.text(s, "chain 9");
        Says.due("the gap by the chain that counts", s.best(0, 1), 0);
        s.set(0, 1, -9);
        Says.due("the gap by the text, not the slack", s.best(0, 1), 0);
        OakDeeds slack = Oak.oneDeed(1010, 3, 1, 0, 420);
        slack.stone(31, 10);
        Says.due("the gap by the slack", slack.best(0, 1), 1);

        Says.says("BAD.");
        refusedDeeds("best", (y, deed) -> y.best(deed, 0));
        for (int what : Says.outside(0, 3)) {
            Says.refused("what " + what, y -> y.best(0, what), BAD);
        }

        Says.in("Promise 25");
        Says.says("`int learn(int year)`: LEARNT of a YEAR.");
        OakDeeds l = new OakDeeds();
        int[] years = {0, 999, 500, 500};
        int[] runs = {105, 205, 305, 505};
        for (int d = 0; d < 4; d++) {
            l.deed(1010, years[d], 0);
            Oak.addCalls(l, d, 0, runs[d], 1, 405);
        }
        Says.due("of the year 0", l.learn(0), 7);
        Says.due("of the year 999", l.learn(999), 6);
        // By 3 and by 5 one closes and the other is 10 off, by 4 both are 5 off: of several the least.
        Says.due("of the year 500", l.learn(500), 3);

        Says.says("BAD: 0 .. 999; NONE: there is no DEED of it.");
        for (int year : Says.outside(0, 999)) {
            Says.refused("year " + year, y -> y.learn(year), BAD);
            Says.due("year " + year + " where there are no deeds", new OakDeeds().learn(year), BAD);
        }
        for (int year : new int[] {0, 7, 10, 999}) {
            Says.refused("year " + year, y -> y.learn(year), NONE);
        }
        Says.due("there are no deeds", new OakDeeds().learn(0), NONE);
    }

    private static void near() {
        Says.in("Promise 26");
        Says.says("`int near(int stone, int what)`: NEAR a STONE: what 0 100 times the DEED, and the CORNER, 1 how far.");
        OakDeeds x = new OakDeeds();
        x.stone(99, 99);
        x.stone(-50, -60);
        for (int d = 0; d < 4; d++) {
            x.deed(0, 0, 0);
        }
        for (int i = 0; i < 10; i++) {
            x.call(3, 1, 110);
            x.call(2, 1, 506);
        }
        Says.due("near the first", x.near(0, 0), 310);
        Says.due("how far", x.near(0, 1), 2);
        Says.due("near the other", x.near(1, 0), 209);
        Says.due("how far", x.near(1, 1), 10);
        x.move(0, 0, 0);
        Says.due("where all begin", x.near(0, 0), 0);
        Says.due("how far", x.near(0, 1), 0);

        Says.says("BAD; NONE: there are no DEEDS.");
        for (int stone : Says.outside(0, 2)) {
            Says.refused("stone " + stone, y -> y.near(stone, 0), BAD);
        }
        for (int what : Says.outside(0, 1)) {
            Says.refused("what " + what, y -> y.near(0, what), BAD);
            OakDeeds none = new OakDeeds();
            none.stone(0, 0);
            Says.due("no deeds, what " + what, none.near(0, what), BAD);
            Says.due("no deeds, no such stone", none.near(1, 0), BAD);
            Says.due("no deeds", none.near(0, 0), NONE);
            Says.due("no deeds: how far", none.near(0, 1), NONE);
        }
    }

    private static void would() {
        Says.in("Promise 27");
        Says.says("`int would(int stone, int x, int y)`: How many CELLS would be another one's (or nobody's, or somebody's), if a STONE were moved to x, y; nothing changes.");
        OakDeeds x = square(5);
        Says.due("held", x.field(0), 100);
        Says.due("to where it is", x.would(1, 10, 10), 0);
        Says.due("somebody's", x.would(1, 10, 20), 55);
        Says.due("nobody's", x.would(1, 10, 0), 55);
        Says.due("nobody's, by a stone far off", x.would(0, -99, -99), 55);
        Says.due("a stone that no deed goes to", x.would(3, 0, 0), 0);
        // The other one holds the same cells and is younger: what the first one loses is its.
        Oak.rectangle(x, 0, 9, 10, 10);
        Says.due("another one's", x.would(1, 10, 0), 55);
        Says.due("nothing has moved", x.stoneTold(1, 1), 10);
        Says.due("nothing has changed", x.owned(0), 100);
        x.set(1, 0, 1);
        Says.due("the older one keeps all", x.would(1, 10, 0), 0);
        Says.due("beyond the older one's", x.would(1, 10, 20), 55);
        OakDeeds moved = square(5);
        int would = moved.would(1, 30, 25);
        int own = moved.owned(0);
        moved.move(1, 30, 25);
        Says.due("as many more as if it had been moved", would, moved.owned(0) - own);
        Says.changesNothing("a stone that no deed goes to", y -> y.would(2, 99, 99), 0);
        Says.changesNothing("to where it is", y -> y.would(1, -7, 20), 0);
        for (int[] to : new int[][] {{29, 0}, {20, 29}, {-99, 99}, {99, -99}}) {
            Says.changesNothing("to " + to[0] + ", " + to[1], y -> y.would(1, to[0], to[1]), changed(1, to[0], to[1]));
        }

        Says.says("BAD.");
        for (int stone : Says.outside(0, 2)) {
            Says.refused("stone " + stone, y -> y.would(stone, 0, 0), BAD);
        }
        for (int at : Says.outside(-99, 99)) {
            Says.refused("to x " + at, y -> y.would(0, at, 0), BAD);
            Says.refused("to y " + at, y -> y.would(0, 0, at), BAD);
        }
        Says.due("there are none", new OakDeeds().would(0, 0, 0), BAD);
    }

    /** How many cells of the world are another one's after a move, cell by cell. */
    private static int changed(int stone, int toX, int toY) {
        int changed = 0;
        for (int x = 0; x < 30; x++) {
            OakDeeds before = Oak.world();
            OakDeeds after = Oak.world();
            after.move(stone, toX, toY);
            for (int y = 0; y < 30; y++) {
                changed += before.whose(100 * x + y) == after.whose(100 * x + y) ? 0 : 1;
            }
        }
        return changed;
    }

    /** A deed of a year that goes by three stones around a square of ten; a fourth stone stands by. */
    private static OakDeeds square(int year) {
        OakDeeds x = new OakDeeds();
        x.stone(10, 0);
        x.stone(10, 10);
        x.stone(0, 10);
        x.stone(20, 20);
        x.deed(0, year, 0);
        Oak.addCalls(x, 0, 3, 1, 3, 2, 3, 3);
        return x;
    }
}
