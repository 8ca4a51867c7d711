/** For each promise of the document: ordinary inputs, the edges that it names, wrong inputs. */
public final class PromiseTests {
    private static final int BAD = OakDeeds.BAD, NO = OakDeeds.NO, FULL = OakDeeds.FULL, NONE = OakDeeds.NONE;
    private static final int NOTHING = OakDeeds.NOTHING, KIND = OakDeeds.KIND, INDEX = OakDeeds.INDEX;
    private static final int SIZE = OakDeeds.SIZE;
    private static final int LOW = Integer.MIN_VALUE, HIGH = Integer.MAX_VALUE;

    private static int asked = 0;
    private static int wrong = 0;
    private static int promise = 0;

    private static void due(String call, int got, int want) {
        asked++;
        if (got != want) {
            wrong++;
            System.out.println("promise " + promise + ": " + call + " answered " + got + ", due is " + want);
        }
    }

    public static void main(String[] args) {
        stonesAndDeeds();
        calls();
        whatDeedsHold();
        slipsNeedlesChains();
        texts();
        textFaults();
        sheetsAndSlots();
        rowsAndImages();
        System.out.println(asked + " answers asked, " + wrong + " not as due");
        if (wrong != 0) {
            System.exit(1);
        }
    }

    private static int text(OakDeeds x, String text) {
        return Oak.text(x, text);
    }

    private static int rectangle(OakDeeds x, int begins, int year, int wide, int high) {
        return Oak.rectangle(x, begins, year, wide, high);
    }

    private static void stonesAndDeeds() {
        promise = 1;
        OakDeeds x = new OakDeeds();
        int[] counts = {0, 0, 0, 0, 0, 0, 1};
        for (int what = 0; what < counts.length; what++) {
            due("count " + what + " of a new object", x.count(what), counts[what]);
        }
        due("no image", x.back(), NO);
        due("nobody's at first", x.owned(-1), 900);
        for (int i = 0; i < 4; i++) {
            due("sheet at first missing", x.mark(i, 0, 0), NOTHING);
        }
        for (int i = 0; i < 5; i++) {
            due("slot at first holds nothing", x.item(i, 0), NOTHING);
        }

        promise = 2;
        due("stone x -100", x.stone(-100, 0), BAD);
        due("stone y 100", x.stone(0, 100), BAD);
        due("stone wild", x.stone(LOW, HIGH), BAD);
        due("stone at an edge", x.stone(-99, 99), 0);
        for (int i = 1; i < 8; i++) {
            due("stone " + i, x.stone(i, -i), i);
        }
        due("a ninth stone", x.stone(0, 0), FULL);
        due("a ninth bad stone", x.stone(100, 0), BAD);
        due("stones", x.count(0), 8);

        promise = 3;
        due("x", x.stoneTold(0, 0), -99);
        due("y", x.stoneTold(0, 1), 99);
        due("y of the last", x.stoneTold(7, 1), -7);
        due("no stone", x.stoneTold(8, 0), BAD);
        due("stone -1", x.stoneTold(-1, 0), BAD);
        due("what 2", x.stoneTold(0, 2), BAD);
        due("what -1", x.stoneTold(0, -1), BAD);

        promise = 4;
        due("far", x.move(0, 99, -99), 396);
        due("x after", x.stoneTold(0, 0), 99);
        due("y after", x.stoneTold(0, 1), -99);
        due("not far", x.move(0, 99, -99), 0);
        due("no stone", x.move(8, 0, 0), BAD);
        due("x too far", x.move(0, 100, 0), BAD);
        due("y too far", x.move(0, 0, -100), BAD);
        due("not moved", x.stoneTold(0, 1), -99);

        promise = 5;
        for (int begins : new int[] {-1, 30, 2930, 3000, LOW, HIGH}) {
            due("begins " + begins, x.deed(begins, 0, 0), BAD);
        }
        due("year -1", x.deed(0, -1, 0), BAD);
        due("year 1000", x.deed(0, 1000, 0), BAD);
        due("slack -10", x.deed(0, 0, -10), BAD);
        due("slack 10", x.deed(0, 0, 10), BAD);
        due("deed", x.deed(2907, 999, -9), 0);
        due("deed", x.deed(29, 0, 9), 1);
        due("deed", x.deed(0, 5, 0), 2);
        due("deed", x.deed(2929, 5, 0), 3);
        due("a fifth", x.deed(0, 0, 0), FULL);
        due("a bad fifth", x.deed(0, 0, 10), BAD);

        promise = 6;
        int[] told = {29, 7, 999, -9, 0, 0, -9, 999};
        for (int what = 0; what < told.length; what++) {
            due("deedTold " + what, x.deedTold(0, what), told[what]);
        }
        due("what 8", x.deedTold(0, 8), BAD);
        due("what -1", x.deedTold(0, -1), BAD);
        due("deed 4", x.deedTold(4, 0), BAD);
        due("deed -1", x.deedTold(-1, 0), BAD);
        x.call(0, 0, 101);
        due("calls", x.deedTold(0, 4), 1);
        text(x, "needle 0-3");
        text(x, "chain 100+y*0");
        text(x, "first n*10+c");
        due("needle below 0", x.deedTold(0, 5), 5);
        due("chain held within", x.deedTold(0, 6), 9);
        due("rank", x.deedTold(0, 7), 1);
        due("rank", x.deedTold(3, 7), 30);
        text(x, "needle 0-8");
        due("needle by 8", x.deedTold(0, 5), 0);
        text(x, "chain s*s*(0-1)");
        due("chain held within", x.deedTold(0, 6), -9);
        due("chain of slack 0", x.deedTold(2, 6), 0);

        promise = 7;
        due("year", x.set(0, 0, 0), 999);
        due("year again", x.set(0, 0, 999), 0);
        due("slack", x.set(0, 1, 9), -9);
        due("beginning", x.set(0, 2, 1203), 2907);
        due("x", x.deedTold(0, 0), 12);
        due("y", x.deedTold(0, 1), 3);
        due("slack now", x.deedTold(0, 3), 9);
        due("year 1000", x.set(0, 0, 1000), BAD);
        due("year -1", x.set(0, 0, -1), BAD);
        due("slack 10", x.set(0, 1, 10), BAD);
        due("slack -10", x.set(0, 1, -10), BAD);
        due("beginning 30", x.set(0, 2, 30), BAD);
        due("beginning -1", x.set(0, 2, -1), BAD);
        due("what 3", x.set(0, 3, 0), BAD);
        due("what -1", x.set(0, -1, 0), BAD);
        due("no deed", x.set(4, 0, 0), BAD);
        due("nothing changed", x.set(0, 0, 999), 999);
    }

    private static void calls() {
        OakDeeds x = new OakDeeds();
        promise = 8;
        due("no deed yet", x.call(0, 0, 101), BAD);
        x.deed(1010, 5, 5);
        for (int run : new int[] {0, 21, 100, 121, 800, 801, -1, -99, LOW, HIGH}) {
            due("run " + run, x.call(0, 0, run), BAD);
        }
        due("kind -1", x.call(0, -1, 101), BAD);
        due("kind 6", x.call(0, 6, 101), BAD);
        due("deed 1", x.call(1, 0, 101), BAD);
        int[] runs = {720, 1, 305, 208, 410, 119};
        for (int kind = 0; kind < 6; kind++) {
            due("call " + kind, x.call(0, kind, runs[kind]), kind);
        }
        for (int i = 6; i < 10; i++) {
            due("call " + i, x.call(0, 0, 101), i);
        }
        due("an eleventh", x.call(0, 0, 101), FULL);
        due("a bad eleventh", x.call(0, 6, 101), BAD);

        promise = 9;
        int[] trues = {21, 1, 5, 8, 10, 19};
        int[] worths = {20, 1, 50, 20, 60, -19};
        for (int i = 0; i < 6; i++) {
            due("kind of " + i, x.told(0, i, 0), i);
            due("way of " + i, x.told(0, i, 1), runs[i] / 100);
            due("length of " + i, x.told(0, i, 2), runs[i] % 100);
            due("true of " + i, x.told(0, i, 3), trues[i]);
            due("worth of " + i, x.told(0, i, 4), worths[i]);
        }
        x.call(0, 1, 305);
        due("what 5", x.told(0, 0, 5), BAD);
        due("what -1", x.told(0, 0, -1), BAD);
        due("call 10", x.told(0, 10, 0), BAD);
        due("call -1", x.told(0, -1, 0), BAD);
        due("deed 1", x.told(1, 0, 0), BAD);
        x.turns(0, 0, 1);
        due("worth of a straight one", x.told(0, 0, 4), 27);
        x.turns(0, 0, 3);
        due("worth of a to", x.told(0, 0, 4), 54);
        x.turns(0, 0, 0);

        promise = 10;
        boolean[][] under = {
            {true, false, false, false, false, false},
            {true, true, false, false, false, false},
            {true, false, true, false, false, false},
            {true, true, false, true, false, false},
            {true, false, true, false, true, false},
            {true, false, false, false, false, true}};
        for (int i = 0; i < 6; i++) {
            for (int kind = 0; kind < 6; kind++) {
                due(i + " as " + kind, x.as(0, i, kind), under[i][kind] ? runs[i] % 100 : KIND);
            }
        }
        due("kind 6", x.as(0, 0, 6), BAD);
        due("kind -1", x.as(0, 0, -1), BAD);
        due("call 10", x.as(0, 10, 0), BAD);
        due("deed 1", x.as(1, 0, 0), BAD);

        promise = 11;
        due("turns", x.turns(0, 2, 5), 2);
        due("turned", x.told(0, 2, 0), 5);
        due("way stays", x.told(0, 2, 1), 3);
        due("length stays", x.told(0, 2, 2), 5);
        due("back", x.turns(0, 2, 2), 5);
        due("kind 6", x.turns(0, 2, 6), BAD);
        due("kind -1", x.turns(0, 2, -1), BAD);
        due("call 10", x.turns(0, 10, 0), BAD);
        due("deed -1", x.turns(-1, 0, 0), BAD);
        due("not turned", x.told(0, 2, 0), 2);

        promise = 12;
        due("drop", x.drop(0, 0), 9);
        due("the next one's kind", x.told(0, 0, 0), 1);
        due("the next one's way", x.told(0, 3, 1), 4);
        due("the next one's length", x.told(0, 4, 2), 19);
        due("drop the last", x.drop(0, 8), 8);
        due("no such call", x.drop(0, 8), BAD);
        due("call -1", x.drop(0, -1), BAD);
        due("deed 1", x.drop(1, 0), BAD);
        for (int left = 7; left >= 0; left--) {
            due("drop the first", x.drop(0, 0), left);
        }
        due("none left", x.drop(0, 0), BAD);

        deals();
    }

    private static void deals() {
        promise = 13;
        OakDeeds x = new OakDeeds();
        x.deed(0, 0, 0);
        due("n 0", x.deal(0, 0), BAD);
        due("n 11", x.deal(0, 11), BAD);
        due("deed 1", x.deal(1, 1), BAD);
        due("z has not changed", x.count(6), 1);
        due("deal", x.deal(0, 3), 3);
        int z = 1;
        for (int i = 0; i < 3; i++) {
            z = z * 1103515245 + 12345;
            due("kind " + i, x.told(0, i, 0), (z >>> 8) % 3);
            z = z * 1103515245 + 12345;
            due("way " + i, x.told(0, i, 1), (z >>> 8) % 8);
            z = z * 1103515245 + 12345;
            due("length " + i, x.told(0, i, 2), 1 + (z >>> 8) % 12);
        }
        due("z", x.count(6), z);
        due("as many as there is room for", x.deal(0, 10), 7);
        for (int i = 0; i < 21; i++) {
            z = z * 1103515245 + 12345;
        }
        due("no draws for others", x.count(6), z);
        due("no room", x.deal(0, 1), 0);
        due("no draws", x.count(6), z);

        promise = 14;
        due("what it was", x.seed(LOW), z);
        due("what it was", x.seed(3), LOW);
        due("what it is", x.count(6), 3);
    }

    private static void whatDeedsHold() {
        corners();
        OakDeeds x = new OakDeeds();
        rectangle(x, 505, 731, 10, 6);
        promise = 16;
        due("closed", x.gap(0), 0);
        x.drop(0, 3);
        due("open", x.gap(0), 6);
        x.drop(0, 2);
        due("open both ways", x.gap(0), 16);
        x.call(0, 0, 410);
        x.call(0, 0, 606);
        due("deed 1", x.gap(1), BAD);
        due("deed -1", x.gap(-1), BAD);

        promise = 17;
        due("twice what is held", x.area(0), 120);
        due("deed 1", x.area(1), BAD);
        x.deed(505, 0, 0);
        due("of no calls", x.area(1), 0);
        x.call(1, 0, 206);
        x.call(1, 0, 10);
        x.call(1, 0, 606);
        due("the other way about, not closed", x.area(1), -120);

        promise = 18;
        due("inside", x.holds(0, 505), 1);
        due("inside at the far corner", x.holds(0, 1410), 1);
        due("right of it", x.holds(0, 1505), 0);
        due("above it", x.holds(0, 511), 0);
        due("left of it", x.holds(0, 405), 0);
        due("below it", x.holds(0, 504), 0);
        for (int cell : new int[] {-1, 30, 2930, 3000, LOW, HIGH}) {
            due("cell " + cell, x.holds(0, cell), BAD);
        }
        due("deed 2", x.holds(2, 0), BAD);
        triangle();

        promise = 19;
        due("cells", x.field(0), 60);
        due("cells of the other", x.field(1), 60);
        due("deed 2", x.field(2), BAD);
        due("deed -1", x.field(-1), BAD);
        overlaps();
    }

    private static void corners() {
        promise = 15;
        OakDeeds x = new OakDeeds();
        x.stone(-20, 8);
        x.deed(1010, 5, 0);
        int[][] ways = {{1, 0}, {1, 1}, {0, 1}, {-1, 1}, {-1, 0}, {-1, -1}, {0, -1}, {1, -1}};
        x.call(0, 0, 4);
        for (int needle = 0; needle < 8; needle++) {
            text(x, "needle " + needle);
            due("x by needle " + needle, x.corner(0, 1, 0), 10 + 4 * ways[needle][0]);
            due("y by needle " + needle, x.corner(0, 1, 1), 10 + 4 * ways[needle][1]);
        }
        text(x, "needle 3");
        x.turns(0, 0, 1);
        due("straight, by way alone", x.corner(0, 1, 0), 14);
        x.turns(0, 0, 5);
        due("slip, x", x.corner(0, 1, 0), 14);
        due("slip, y", x.corner(0, 1, 1), 6);
        x.turns(0, 0, 3);
        due("to no stone, as straight", x.corner(0, 1, 0), 14);
        x.call(0, 3, 501);
        due("to a stone, x", x.corner(0, 2, 0), -20);
        due("to a stone, y", x.corner(0, 2, 1), 8);
        x.call(0, 4, 501);
        due("half, x", x.corner(0, 3, 0), -5);
        due("half, y", x.corner(0, 3, 1), 9);
        x.move(0, -13, 3);
        due("half cuts towards 0", x.corner(0, 3, 0), -1);
        due("half, y", x.corner(0, 3, 1), 6);
        x.call(0, 2, 501);
        due("back, x", x.corner(0, 4, 0), 10);
        due("back, y", x.corner(0, 4, 1), 10);
        due("the beginning", x.corner(0, 0, 1), 10);
        due("no such corner", x.corner(0, 5, 0), NONE);
        due("no such corner", x.corner(0, HIGH, 0), NONE);
        due("i -1", x.corner(0, -1, 0), BAD);
        due("what 2", x.corner(0, 0, 2), BAD);
        due("what 2 of no corner", x.corner(0, 9, 2), BAD);
        due("what -1", x.corner(0, 0, -1), BAD);
        due("deed 1", x.corner(1, 0, 0), BAD);
        OakDeeds ten = new OakDeeds();
        ten.deed(0, 0, 0);
        for (int i = 0; i < 10; i++) {
            ten.call(0, 0, 120);
        }
        due("x of the corner 10", ten.corner(0, 10, 0), 200);
        due("y of the corner 10", ten.corner(0, 10, 1), 200);
        due("corner 11", ten.corner(0, 11, 1), NONE);
        OakDeeds short9 = new OakDeeds();
        short9.deed(0, 0, -9);
        short9.call(0, 0, 119);
        due("chains are short", short9.corner(0, 1, 0), 17);
        short9.set(0, 1, 9);
        due("chains are long", short9.corner(0, 1, 0), 20);
    }

    /** A side that goes aslant: cells whose middle lies right on it are not left of it. */
    private static void triangle() {
        OakDeeds x = new OakDeeds();
        x.deed(0, 0, 0);
        x.call(0, 0, 10);
        x.call(0, 0, 310);
        due("area of a triangle", x.area(0), 100);
        due("left of the slant", x.holds(0, 405), 0);
        // The sides go from (10, 0) to (0, 10) and back to (0, 0): at y + 1/2 the first is at 9 1/2 - y.
        due("first cell", x.holds(0, 0), 1);
        due("the last one left of the slant", x.holds(0, 800), 1);
        due("the middle is on the slant", x.holds(0, 900), 0);
        due("cells of a triangle", x.field(0), 45);
        OakDeeds y = new OakDeeds();
        y.stone(-99, 15);
        y.stone(99, 99);
        y.deed(0, 0, 0);
        y.call(0, 3, 1);
        y.call(0, 3, 2);
        due("sides beyond all cells", y.holds(0, 1520), 1);
        due("sides beyond all cells", y.holds(0, 1529), 1);
        due("sides beyond all cells", y.holds(0, 1505), 0);
        due("the slant from the beginning", y.holds(0, 2020), 0);
        due("the slant from the beginning", y.holds(0, 2021), 1);
    }

    private static void overlaps() {
        OakDeeds x = new OakDeeds();
        rectangle(x, 505, 740, 10, 6);
        rectangle(x, 808, 731, 8, 8);
        promise = 20;
        due("both hold", x.over(0, 1), 21);
        due("the other way about", x.over(1, 0), 21);
        due("alike", x.over(0, 0), BAD);
        due("deed 2", x.over(0, 2), BAD);
        due("deed -1", x.over(-1, 0), BAD);

        promise = 21;
        due("the older one's", x.whose(909), 1);
        due("the other's", x.whose(505), 0);
        due("nobody's", x.whose(0), NONE);
        due("cell 30", x.whose(30), BAD);
        due("cell -1", x.whose(-1), BAD);
        due("cell 3000", x.whose(3000), BAD);

        promise = 22;
        due("owned by 0", x.owned(0), 39);
        due("owned by 1", x.owned(1), 64);
        due("nobody's", x.owned(-1), 797);
        due("below -1", x.owned(-2), BAD);
        due("no such deed", x.owned(2), BAD);
        x.set(0, 0, 731);
        promise = 21;
        due("of several the least", x.whose(909), 0);
        promise = 22;
        due("owned by 1 now", x.owned(1), 43);
        text(x, "first 0-n");
        due("by a text", x.owned(0), 39);
        promise = 21;
        due("by a text", x.whose(909), 1);
        rectangle(x, 909, 0, 1, 1);
        due("the least rank of three", x.whose(909), 2);
        edgesOfCells();
    }

    private static void edgesOfCells() {
        OakDeeds x = new OakDeeds();
        x.keep();
        rectangle(x, 0, 5, 20, 3);
        rectangle(x, 1000, 4, 19, 2);
        promise = 20;
        due("in the lowest rows", x.over(0, 1), 20);
        promise = 21;
        due("at x 12, y 0", x.whose(1200), 1);
        due("at x 12, y 2", x.whose(1202), 0);
        due("at x 0, y 2", x.whose(2), 0);
        due("at x 9, y 0", x.whose(900), 0);
        due("at x 28, y 1", x.whose(2801), 1);
        due("at x 29, y 1", x.whose(2901), NONE);
        promise = 22;
        due("owned in the lowest rows", x.owned(0), 40);
        due("nobody's", x.owned(-1), 900 - 40 - 38);
        x.back();
        due("none owns any more", x.owned(-1), 900);
        promise = 21;
        due("nobody's any more", x.whose(1200), NONE);
        OakDeeds y = new OakDeeds();
        y.stone(40, 40);
        y.stone(-40, 40);
        y.deed(1500, 0, 0);
        y.call(0, 3, 1);
        y.call(0, 3, 2);
        promise = 18;
        due("the highest row", y.holds(0, 2929), 1);
        due("the highest row, left", y.holds(0, 29), 1);
        promise = 21;
        due("the highest row", y.whose(2929), 0);
    }

    private static void slipsNeedlesChains() {
        OakDeeds x = new OakDeeds();
        promise = 23;
        due("no deed", x.slip(0, 0), BAD);
        rectangle(x, 505, 5, 10, 6);
        due("closed", x.slip(0, 1), 0);
        due("no call by 0", x.slip(0, 2), NONE);
        x.call(0, 0, 103);
        due("one left out: gap", x.slip(0, 0), 0);
        due("one left out", x.slip(0, 1), 1);
        due("one left out: call", x.slip(0, 2), 4);
        x.drop(0, 4);
        x.drop(0, 1);
        x.call(0, 0, 606);
        due("one turned about: gap", x.slip(0, 0), 0);
        due("one turned about", x.slip(0, 1), 2);
        due("one turned about: call", x.slip(0, 2), 2);
        due("what 3", x.slip(0, 3), BAD);
        due("what -1", x.slip(0, -1), BAD);
        due("deed 1", x.slip(1, 0), BAD);
        x.deed(1010, 0, 0);
        x.call(1, 2, 1);
        x.call(1, 0, 3);
        due("a call left out comes ahead of one exchanged", x.slip(1, 1), 1);
        due("the first of them", x.slip(1, 2), 1);
        exchanges();

        promise = 24;
        OakDeeds n = new OakDeeds();
        n.deed(1010, 7, 3);
        n.call(0, 0, 5);
        n.call(0, 1, 605);
        due("best needle", n.best(0, 0), 2);
        due("its gap", n.best(0, 1), 0);
        due("best chain, the least of several", n.best(0, 2), -9);
        due("gap with it", n.best(0, 3), 8);
        due("what 4", n.best(0, 4), BAD);
        due("what -1", n.best(0, -1), BAD);
        due("deed 1", n.best(1, 0), BAD);
        text(n, "needle 2");
        due("best chain with the needle that counts", n.best(0, 3), 0);

        OakDeeds c = new OakDeeds();
        c.stone(23, 10);
        c.stone(10, 21);
        c.deed(1010, 7, 3);
        due("best needle of no calls", c.best(0, 0), 0);
        c.call(0, 3, 1);
        c.call(0, 0, 412);
        due("the longest chain closes it: 12 are 13", c.best(0, 2), 9);
        due("gap with it", c.best(0, 3), 0);
        due("gap with the needle 0 and the chain that counts", c.best(0, 1), 1);
        due("needle 0", c.best(0, 0), 0);
        c.deed(1010, 7, 3);
        c.call(1, 3, 2);
        c.call(1, 1, 612);
        due("a shorter chain closes it: 12 are 11", c.best(1, 2), -8);

        promise = 25;
        due("learnt", n.learn(7), 2);
        due("no deed of it", n.learn(8), NONE);
        due("year -1", n.learn(-1), BAD);
        due("year 1000", n.learn(1000), BAD);
        n.deed(1010, 7, 0);
        n.call(1, 0, 120);
        n.call(1, 1, 220);
        due("learnt of both", n.learn(7), 5);
        n.deed(0, 8, 0);
        due("of several the least", n.learn(8), 0);
        nearAndWould();
    }

    private static void exchanges() {
        OakDeeds x = new OakDeeds();
        x.stone(12, 10);
        x.stone(25, 20);
        x.deed(1010, 0, 0);
        // To (25, 20), to (12, 10), to (25, 20): the last corner counts, and leaving one out is as good as nothing.
        x.call(0, 3, 2);
        x.call(0, 3, 1);
        x.call(0, 3, 2);
        due("gap as it is", x.gap(0), 25);
        due("the last one left out", x.slip(0, 0), 2);
        due("the last one left out", x.slip(0, 2), 2);
        OakDeeds y = new OakDeeds();
        y.stone(12, 10);
        y.deed(1010, 0, 0);
        y.call(0, 1, 2);
        y.call(0, 3, 1);
        y.call(0, 1, 6);
        // Exchanged: 2 and 6 to the right, then to the stone. Left out, the third leaves (12, 10) as well.
        due("which comes first", y.slip(0, 1), 1);
        OakDeeds e = new OakDeeds();
        e.stone(10, 20);
        e.deed(1010, 0, 0);
        e.call(0, 1, 610);
        e.call(0, 3, 1);
        // Left out: (10, 20) or (10, 0): 10. Turned: (10, 20): 10. Exchanged: (10, 20), then (10, 10): 0.
        due("exchanged: gap", e.slip(0, 0), 0);
        due("exchanged", e.slip(0, 1), 3);
        due("exchanged: call", e.slip(0, 2), 0);
        OakDeeds t = new OakDeeds();
        t.stone(20, 10);
        t.deed(1010, 0, 0);
        t.call(0, 1, 3);
        t.call(0, 3, 1);
        t.call(0, 1, 10);
        due("the one behind the stone turned about: gap", t.slip(0, 0), 0);
        due("the one behind the stone turned about", t.slip(0, 1), 2);
        due("the one behind the stone turned about: call", t.slip(0, 2), 2);
    }

    private static void nearAndWould() {
        promise = 26;
        OakDeeds x = new OakDeeds();
        x.stone(11, 9);
        due("no deeds", x.near(0, 0), NONE);
        due("no deeds, what 2", x.near(0, 2), BAD);
        due("no stone", x.near(1, 0), BAD);
        rectangle(x, 505, 1, 10, 6);
        rectangle(x, 1108, 1, 4, 4);
        due("nearest", x.near(0, 0), 100);
        due("how far", x.near(0, 1), 1);
        x.move(0, 10, 5);
        due("of several the first", x.near(0, 0), 100);
        x.move(0, 4, 4);
        due("of corners the first", x.near(0, 0), 0);
        due("how far", x.near(0, 1), 2);
        x.move(0, 16, 13);
        due("a corner that is not the first", x.near(0, 0), 102);
        due("how far", x.near(0, 1), 2);
        x.move(0, 5, 12);
        due("a corner of the first deed", x.near(0, 0), 3);
        due("what -1", x.near(0, -1), BAD);
        due("stone -1", x.near(-1, 0), BAD);
        OakDeeds s = new OakDeeds();
        s.stone(29, 0);
        s.keep();
        s.deed(2900, 0, 0);
        due("at the beginning", s.near(0, 1), 0);
        s.back();
        s.deed(505, 0, 0);
        due("corners that are gone do not count", s.near(0, 1), 29);
        s.call(0, 0, 120);
        s.drop(0, 0);
        due("corners that are gone do not count", s.near(0, 0), 0);

        promise = 27;
        OakDeeds w = new OakDeeds();
        w.stone(20, 10);
        w.deed(1010, 0, 0);
        w.call(0, 3, 1);
        w.call(0, 1, 205);
        w.call(0, 1, 410);
        due("held", w.field(0), 50);
        due("nowhere else", w.would(0, 20, 10), 0);
        // Corners (20, 11), (20, 16), (10, 16): half of the row 10 is lost, the row 15 is won.
        due("would lose and win", w.would(0, 20, 11), 15);
        due("nothing has moved", w.stoneTold(0, 1), 10);
        due("nothing has changed", w.field(0), 50);
        w.move(0, 20, 11);
        due("held then", w.field(0), 55);
        w.move(0, 20, 10);
        rectangle(w, 1010, 1, 19, 5);
        // Corners (10, 10), (10, 15), (0, 15): 50 cells become the other's, 1 + 3 + 5 + 7 + 9 that were nobody's come.
        due("would be another's", w.would(0, 10, 10), 75);
        OakDeeds low = new OakDeeds();
        low.stone(20, 0);
        low.deed(1000, 0, 0);
        low.call(0, 3, 1);
        low.call(0, 1, 201);
        low.call(0, 2, 1);
        // A triangle of height 1 with its cells at x 15 .. 19 of the row 0.
        due("in the lowest row", low.would(0, 10, 0), low.field(0));
        due("held in the lowest row", low.field(0), 5);
        due("x too far", w.would(0, 100, 0), BAD);
        due("y too far", w.would(0, 0, -100), BAD);
        due("no stone", w.would(1, 0, 0), BAD);
        due("stone -1", w.would(-1, 0, 0), BAD);
    }

    private static void texts() {
        OakDeeds x = new OakDeeds();
        promise = 28;
        for (int i = 1; i <= 8; i++) {
            due("feed " + i, x.feed(0x20202020, 0x20202020, 0x20202020), 12 * i);
        }
        due("more than 96", x.feed(0, 0, 0), FULL);
        due("nothing came", x.count(5), 96);

        promise = 29;
        due("above its length", x.trim(97), BAD);
        due("below 0", x.trim(-1), BAD);
        due("as it is", x.trim(96), 96);
        due("trim", x.trim(85), 85);
        due("85 and 12 are more than 96", x.feed(0, 0, 0), FULL);
        due("trim", x.trim(84), 84);
        due("84 and 12", x.feed(0, 0, 0), 96);
        due("to nothing", x.trim(0), 0);
        due("nothing left", x.trim(1), BAD);

        promise = 30;
        due("bytes, the highest first", x.feed(0x66697273, 0x74206e20, 0x20202020), 12);
        due("first text", x.text(), 0);
        due("the tape is used up", x.count(5), 0);
        due("no tape", x.text(), -100);
        due("texts", x.count(3), 1);
        values();
        for (int i = 1; i < 14; i++) {
            due("text " + i, text(x, i % 2 == 0 ? "needle y" : "chain y&s"), i);
        }
        promise = 30;
        due("a fifteenth", text(x, "first y"), FULL);
        due("the tape is used up", x.count(5), 0);
        due("a wrong fifteenth", text(x, "first s"), -106);

        promise = 31;
        due("key", x.textTold(0, 0), 2);
        due("key", x.textTold(1, 0), 1);
        due("key", x.textTold(2, 0), 0);
        due("names", x.textTold(0, 1), 1);
        due("names", x.textTold(13, 1), 2);
        due("text 14", x.textTold(14, 0), BAD);
        due("text -1", x.textTold(-1, 0), BAD);
        due("what 2", x.textTold(0, 2), BAD);
        due("what -1", x.textTold(0, -1), BAD);
        OakDeeds y = new OakDeeds();
        text(y, "first !(12+y*(n-0))|c&1=1");
        due("numbers and names", y.textTold(0, 1), 7);

        promise = 32;
        due("needle", x.why(0), 12);
        due("chain", x.why(1), 13);
        due("first", x.why(2), 0);
        due("key 3", x.why(3), BAD);
        due("key -1", x.why(-1), BAD);
        due("none", y.why(0), NONE);
    }

    /** What texts give, by RANK, which is any int. */
    private static void values() {
        String[] texts = {"1+2*3", "(1+2)*3", "7-2-1", "20/3/2", "7/0", "0-7/2", "1<2", "2<1", "2=2", "2=3", "3>2",
            "2>3", "1<2=0", "1|0", "0|0", "5&3", "5&0", "1|1&0", "!0", "!7", "!!7", "!0+5", "1+1=2&3>2", "y", "n", "c",
            "y-1=4", "9999*9999*9999", "0009", "!(y=5)", "(0-7)/2", "9999*9999*30/(0-1)", "2&!n", " 4 + y ",
            "2*3<7|0", "0-(9999*9999*30)", "2<2", "2>2", "0<1", "1230", "4567", "890", "n=1", "n<1", "0*y", "!y|!!n",
            "5/(0-2)", "1-1|0&1", "3>2+2", "3*2>5", "0=0&0", "0/5"};
        int[] wants = {7, 9, 4, 3, 0, -3, 1, 0, 1, 0, 1, 0, BAD, 1, 0, 1, 0, 1, 1, 0, 1, 6, 1, 5, 1, 2, 1,
            9999 * 9999 * 9999, 9, 0, -3, 9999 * 9999 * 30 / -1, 0, 9, 1, -(9999 * 9999 * 30), 0, 0, 1, 1230, 4567, 890, 1, 0, 0, 1, -2, 0, 0, 1, 0, 0};
        for (int i = 0; i < texts.length; i++) {
            OakDeeds x = new OakDeeds();
            x.deed(0, 0, 0);
            x.deed(0, 5, 0);
            x.call(1, 0, 1);
            x.call(1, 0, 1);
            if (wants[i] == BAD) {
                due(texts[i], text(x, "first " + texts[i]), -109);
            } else {
                due(texts[i], text(x, "first " + texts[i]), 0);
                due("value of " + texts[i], x.deedTold(1, 7), wants[i]);
            }
        }
    }

    private static void textFaults() {
        promise = 30;
        String[] texts = {"", "   ", "n", "needles y", "needle", "needle ", "needley", "needle7", "first12", "7 needle",
            "first y5", "first 5y", "first y y", "first yy", "first 12345", "first 1234", "first (y", "first y)",
            "first ()", "first y+", "first +y", "first y<1<2", "first (y<1)<2", "first y!", "first !", "first s",
            "needle n", "chain c", "chain n", "needle s", "First y", "first Y", "first\ty", "first y\t", "first y  ",
            "  first(y)", "first y==1", "first y 5", "first 1 2", "first(1)(2)", "first y&&n", "first \u0000",
            "first y,", "first 99999+", "first y first", "first\u00e9", "first yz", "first ya", "first 12340", "first 12349",
            "hirst y", "firsy y", "firs y", "chai s", "cha", "first y`", "first y{", "first 1:", "first y'", "first (y))",
            "first ((y)", "needle y|", "needle !!", "needle y<", "needle !(y", "first 1 (2)", "first 00000"};
        int[] faults = {0, 3, 0, 0, 6, 7, 0, 6, 5, 0, 7, 7, 8, 6, 6, -1, 8, 7, 7, 8, 6, 9, -1, 7, 7, 6, 7, 6, 6, 7, 0,
            6, 5, 7, -1, -1, 8, 8, 8, 8, 8, 6, 7, 6, 8, 5, 6, 6, 6, 6, 0, 0, 0, 0, 0, 7, 7, 7, 7, 9, 10, 9, 9, 9, 10, 8, 6};
        for (int i = 0; i < texts.length; i++) {
            OakDeeds x = new OakDeeds();
            due("\"" + texts[i] + "\"", text(x, texts[i]), faults[i] < 0 ? 0 : -100 - faults[i]);
            due("used up", x.count(5), 0);
        }
        OakDeeds x = new OakDeeds();
        due("eight (", text(x, "first " + "(".repeat(8) + "y" + ")".repeat(8)), 0);
        due("nine (", text(x, "first " + "(".repeat(9) + "y" + ")".repeat(9)), -114);
        due("eight !", text(x, "first " + "!".repeat(8) + "y"), 1);
        due("nine !", text(x, "first " + "!".repeat(9) + "y"), -114);
        due("eight of each", text(x, "first " + "!(".repeat(8) + "y" + ")".repeat(8)), 2);
        due("a ninth ! within (", text(x, "first " + "!(".repeat(8) + "!y" + ")".repeat(8)), -122);
        due("a ninth ( within !", text(x, "first " + "!(".repeat(8) + "(y" + ")".repeat(9)), -122);
        due("closed ones do not count", text(x, "first " + "(y)+".repeat(12) + "!y+".repeat(12) + "y"), 3);
        due("eight again behind eight", text(x, "first !!!!!!!!y+!!!!!!!!y+((((((((y))))))))+((((((((y))))))))"), 4);
        due("96 bytes", text(x, "first" + "(y)".repeat(1) + "+y".repeat(44)), 5);
    }

    private static void sheetsAndSlots() {
        OakDeeds x = new OakDeeds();
        promise = 33;
        due("shorts", x.sheet(0, 0, 24), 24);
        due("floats", x.sheet(1, 1, 0), 0);
        due("n 25", x.sheet(0, 0, 25), BAD);
        due("n -1", x.sheet(0, 0, -1), SIZE);
        due("n -1 of no sort", x.sheet(0, 2, -1), BAD);
        due("sort -2", x.sheet(0, -2, 1), BAD);
        due("sheet 4", x.sheet(4, 0, -1), BAD);
        due("sheet -1", x.sheet(-1, 0, 1), BAD);
        due("still there", x.mark(0, 23, 7), 1);
        due("missing, n any", x.sheet(0, -1, 99), 0);
        due("missing", x.mark(0, 0, 7), NOTHING);
        due("missing, n any", x.sheet(3, -1, -99), 0);
        x.sheet(0, 1, 24);
        x.lay(0, 2, 0);
        due("all 0", x.item(0, 23), 0);

        promise = 34;
        x.sheet(0, 0, 3);
        due("sheet 4", x.mark(4, 0, 0), BAD);
        due("sheet -1", x.mark(-1, 0, 0), BAD);
        due("missing", x.mark(2, 99, 0), NOTHING);
        due("place 3", x.mark(0, 3, NONE), INDEX);
        due("place -1", x.mark(0, -1, 0), INDEX);
        due("of an empty sheet", x.mark(1, 0, 0), INDEX);
        due("no number in shorts", x.mark(0, 0, NONE), KIND);
        due("the lowest 16 bits", x.mark(0, 0, 98304), 1);
        due("the lowest 16 bits", x.mark(0, 1, LOW + 5), 1);
        x.lay(0, 2, 0);
        due("its sign", x.item(0, 0), -32768);
        due("its lowest", x.item(0, 1), 5);
        x.sheet(1, 1, 3);
        due("float", x.mark(1, 0, -99999), 1);
        due("float", x.mark(1, 1, 99999), 1);
        due("too high", x.mark(1, 1, 100000), BAD);
        due("too low", x.mark(1, 1, -100000), BAD);
        due("too low, no such place", x.mark(1, 3, -100000), INDEX);
        due("no number", x.mark(1, 2, NONE), 1);
        x.lay(0, 2, 1);
        due("float", x.item(0, 0), -99999);
        due("float", x.item(0, 1), 99999);
        pours();
        copies();
        slots();
    }

    private static void pours() {
        promise = 35;
        OakDeeds x = new OakDeeds();
        x.deed(0, 0, 0);
        due("missing", x.pour(0, 0), NOTHING);
        due("no deed", x.pour(0, 1), BAD);
        due("sheet 4", x.pour(4, 0), BAD);
        x.sheet(0, 1, 12);
        due("0 is no call", x.pour(0, 0), 0);
        for (int i = 0; i < 12; i++) {
            x.mark(0, i, 720 - i);
        }
        due("twelve have no room", x.pour(0, 0), FULL);
        due("none came", x.count(2), 0);
        x.mark(0, 10, NONE);
        due("ten", x.pour(0, 0), 10);
        due("kind", x.told(0, 9, 0), 0);
        due("way", x.told(0, 9, 1), 7);
        due("length", x.told(0, 9, 2), 11);
        x.mark(0, 0, 821);
        due("none, though there is no room", x.pour(0, 0), 0);
        x.drop(0, 0);
        x.mark(0, 0, 1);
        x.mark(0, 1, -101);
        due("one behind the others", x.pour(0, 0), 1);
        due("length", x.told(0, 9, 2), 1);

        x.sheet(1, 0, 24);
        for (int i = 0; i < 24; i++) {
            x.mark(1, i, 205);
        }
        due("a whole sheet has no room", x.pour(1, 0), FULL);
        x.sheet(1, 0, 2);
        x.mark(1, 0, 205);
        x.mark(1, 1, 120);
        due("two have no room", x.pour(1, 0), FULL);
        x.drop(0, 0);
        due("two have no room", x.pour(1, 0), FULL);
        x.drop(0, 0);
        due("two have room", x.pour(1, 0), 2);
        due("way", x.told(0, 9, 1), 1);
        due("length", x.told(0, 9, 2), 20);
        due("way", x.told(0, 8, 1), 2);
        OakDeeds z = new OakDeeds();
        z.deed(0, 0, 0);
        z.sheet(0, 0, 1);
        z.mark(0, 0, 100 + 65536 + 7);
        due("of shorts the lowest 16 bits", z.pour(0, 0), 1);
        due("length", z.told(0, 0, 2), 7);

        promise = 36;
        OakDeeds none = new OakDeeds();
        none.deed(0, 0, 0);
        none.sheet(0, 0, 3);
        due("0 beyond the last corner", none.reads(0, 0), 2);
        OakDeeds y = new OakDeeds();
        rectangle(y, 300, 0, 2, 1);
        due("missing", y.reads(0, 0), NOTHING);
        due("sheet 4", y.reads(4, 0), BAD);
        due("no deed", y.reads(0, 1), BAD);
        y.sheet(0, 0, 0);
        due("an empty one", y.reads(0, 0), NONE);
        int[] due = {3, 0, 5, 0, 5, 1, 3, 1, 3, 0};
        y.sheet(0, 0, 10);
        for (int i = 0; i < 10; i++) {
            y.mark(0, i, due[i] + 1);
            due("right up to " + i, y.reads(0, 0), i);
            y.mark(0, i, due[i]);
        }
        due("all right", y.reads(0, 0), NONE);
        y.mark(0, 9, 1);
        due("the last is not", y.reads(0, 0), 9);
        y.sheet(1, 1, 13);
        for (int i = 0; i < 13; i++) {
            y.mark(1, i, NONE);
        }
        due("no numbers", y.reads(1, 0), NONE);
        y.mark(1, 11, 0);
        due("beyond the last corner", y.reads(1, 0), 11);
        y.mark(1, 5, 1);
        due("right, so the later one", y.reads(1, 0), 11);
        y.mark(1, 5, 2);
        due("the first that is not", y.reads(1, 0), 5);
    }

    private static void copies() {
        promise = 37;
        OakDeeds x = new OakDeeds();
        x.sheet(0, 0, 5);
        x.sheet(1, 0, 4);
        x.sheet(2, 1, 5);
        for (int i = 0; i < 5; i++) {
            x.mark(0, i, 10 + i);
        }
        due("to another", x.copy(0, 1, 1, 0, 4), 4);
        x.lay(0, 2, 1);
        due("the last one", x.item(0, 3), 14);
        due("the same, upwards", x.copy(0, 0, 0, 1, 4), 4);
        x.lay(0, 2, 0);
        int[] rows = {10, 10, 11, 12, 13};
        for (int i = 0; i < 5; i++) {
            due("as they were " + i, x.item(0, i), rows[i]);
        }
        due("the same, downwards", x.copy(0, 2, 0, 0, 3), 3);
        x.lay(0, 2, 0);
        due("as they were", x.item(0, 2), 13);
        due("many 0 at the end", x.copy(0, 5, 1, 4, 0), 0);
        due("many 0 above its length", x.copy(0, 6, 1, 4, 0), INDEX);
        due("many 0 above its length", x.copy(0, 5, 1, 5, 0), INDEX);
        due("many -1", x.copy(0, 1, 1, 1, -1), INDEX);
        due("place -1", x.copy(0, -1, 1, 1, 1), INDEX);
        due("at -1", x.copy(0, 1, 1, -1, 1), INDEX);
        due("too many from", x.copy(0, 2, 1, 0, 4), INDEX);
        due("too many to", x.copy(0, 0, 1, 0, 5), INDEX);
        due("so many that they wrap", x.copy(0, 1, 1, 1, HIGH), INDEX);
        due("a place so high", x.copy(0, HIGH, 1, 1, HIGH), INDEX);
        due("not of one sort", x.copy(0, 9, 2, 0, 1), KIND);
        due("missing", x.copy(0, 0, 3, 0, 1), NOTHING);
        due("missing", x.copy(3, 0, 2, 0, 1), NOTHING);
        due("sheet 4", x.copy(3, 0, 4, 0, 1), BAD);
        due("sheet -1", x.copy(-1, 0, 3, 0, 1), BAD);
        x.mark(2, 0, NONE);
        due("no number", x.copy(2, 0, 2, 4, 1), 1);
        x.lay(0, 2, 2);
        due("no number", x.item(0, 4), KIND);
    }

    private static void slots() {
        OakDeeds x = new OakDeeds();
        x.deed(0, 0, 0);
        x.deed(0, 0, 0);
        x.call(1, 0, 104);
        x.call(1, 3, 302);
        promise = 38;
        due("a call", x.lay(0, 1, 101), 0);
        x.keep();
        x.call(0, 0, 317);
        x.call(0, 5, 213);
        due("the call 0 of the deed 0", x.lay(1, 1, 0), 0);
        due("its worth", x.ask(1, 0), 17);
        due("the call 1 of the deed 0", x.lay(1, 1, 1), 1);
        due("its worth", x.ask(1, 0), -13);
        due("the call 0 of the deed 1", x.lay(1, 1, 100), 1);
        due("its worth", x.ask(1, 0), 4);
        x.lay(1, 0, 0);
        x.back();
        due("a sheet that is missing", x.lay(0, 2, 0), NOTHING);
        x.sheet(0, 0, 2);
        due("a sheet", x.lay(0, 2, 0), 1);
        due("a number", x.lay(0, 3, LOW), 2);
        due("nothing, k any", x.lay(0, 0, -7), 3);
        due("nothing again", x.lay(0, 0, HIGH), 0);
        due("slot 5", x.lay(5, 0, 0), BAD);
        due("slot -1", x.lay(-1, 0, 0), BAD);
        due("thing 4", x.lay(0, 4, 0), BAD);
        due("thing -1", x.lay(0, -1, 0), BAD);
        for (int k : new int[] {0, 102, 200, 400, -1, -100, LOW, HIGH}) {
            due("call " + k, x.lay(0, 1, k), BAD);
        }
        due("sheet 4", x.lay(0, 2, 4), BAD);
        due("sheet -1", x.lay(0, 2, -1), BAD);
        due("holds nothing still", x.lay(0, 3, 5), 0);
        x.lay(0, 1, 102);
        due("a number still", x.rest(0, 10), 5);

        promise = 39;
        due("nothing", x.ask(1, 0), NOTHING);
        due("no call", x.ask(0, 0), KIND);
        x.lay(4, 1, 101);
        due("its own worth as a call", x.ask(4, 0), 10);
        due("as a straight one", x.ask(4, 1), 10);
        due("as a to", x.ask(4, 3), 10);
        due("as a back", x.ask(4, 2), KIND);
        due("as a half", x.ask(4, 4), KIND);
        due("as a slip", x.ask(4, 5), KIND);
        due("kind 6", x.ask(4, 6), BAD);
        due("kind -1 of nothing", x.ask(1, -1), BAD);
        due("slot 5", x.ask(5, 0), BAD);
        x.turns(1, 1, 2);
        x.drop(1, 1);
        due("for good", x.ask(4, 3), 10);

        promise = 40;
        due("slot 5", x.item(5, 0), BAD);
        due("slot -1", x.item(-1, 0), BAD);
        due("nothing", x.item(1, 99), NOTHING);
        due("no sheet", x.item(4, 99), KIND);
        x.sheet(1, 1, 2);
        x.mark(1, 0, 8);
        x.mark(1, 1, NONE);
        x.lay(2, 2, 1);
        x.mark(1, 0, 9);
        x.sheet(1, -1, 0);
        due("a row of its own", x.item(2, 0), 8);
        due("no number", x.item(2, 1), KIND);
        due("place 2", x.item(2, 2), INDEX);
        due("place -1", x.item(2, -1), INDEX);

        promise = 41;
        due("slot 5", x.rest(5, 0), BAD);
        due("slot -1", x.rest(-1, 0), BAD);
        due("nothing", x.rest(1, 0), NOTHING);
        due("no number", x.rest(2, 0), KIND);
        due("no number", x.rest(4, 0), KIND);
        x.lay(3, 3, LOW);
        due("by 0", x.rest(3, 0), NO);
        due("by -1", x.rest(3, -1), 0);
        due("by 10", x.rest(3, 10), -8);
        x.lay(3, 3, 7);
        due("by -4", x.rest(3, -4), 3);
    }

    private static void rowsAndImages() {
        OakDeeds x = new OakDeeds();
        promise = 42;
        for (int i = 1; i <= 60; i++) {
            due("tell", x.tell(i), i);
        }
        due("60 wait", x.tell(0), FULL);
        due("60 wait", x.count(4), 60);

        promise = 43;
        due("no image", x.check(0), NO);
        due("none wait", x.count(4), 0);
        rectangle(x, 505, 5, 10, 6);
        x.deed(0, 0, 0);
        x.keep();
        x.deed(0, 0, 0);
        x.tell(1);
        due("no such deed in it", x.check(2), BAD);
        due("none wait", x.count(4), 0);
        due("deed -1", x.check(-1), BAD);
        int[] due = {15, 5, 15, 11, 5, 11, 5, 5};
        for (int many = 0; many <= 9; many++) {
            for (int i = 0; i < many; i++) {
                x.tell(i < 8 ? due[i] : 0);
            }
            due(many + " told", x.check(0), many == 8 ? 0 : 1 + Math.min(many, 8));
        }
        x.tell(15);
        x.tell(6);
        x.tell(15);
        due("the second is not", x.check(0), 2);
        due("of no calls, none told", x.check(1), 0);
        x.tell(0);
        due("of no calls, one told", x.check(1), 1);
        x.set(0, 2, 0);
        text(x, "needle 1");
        x.tell(15);
        due("by the image", x.check(0), 2);
        x.back();
        images();
    }

    private static void images() {
        OakDeeds x = new OakDeeds();
        promise = 45;
        due("no image", x.back(), NO);
        promise = 44;
        due("no deeds", x.keep(), 0);
        x.stone(1, 2);
        rectangle(x, 505, 5, 10, 6);
        text(x, "first 7");
        text(x, "needle 1");
        x.seed(77);
        due("deeds", x.keep(), 1);
        promise = 45;
        for (int again = 0; again < 2; again++) {
            x.stone(3, 3);
            x.move(0, 9, 9);
            x.deed(0, 0, 0);
            x.set(0, 0, 9);
            x.set(0, 1, 9);
            x.set(0, 2, 9);
            x.turns(0, 0, 5);
            x.drop(0, 1);
            x.deal(0, 5);
            text(x, "first 8" + again);
            x.sheet(0, 0, 3);
            x.lay(0, 3, 9);
            x.tell(1);
            x.feed(1, 2, 3);
            due("deeds", x.back(), 1);
            int[] counts = {1, 1, 4, 2, 1 + again, 12, 77};
            for (int what = 0; what < counts.length; what++) {
                due("count " + what + " after", x.count(what), counts[what]);
            }
            x.trim(0);
            due("stone", x.stoneTold(0, 0), 1);
            int[] told = {5, 5, 5, 0, 4, 1, 0, 7};
            for (int what = 0; what < told.length; what++) {
                due("deedTold " + what + " after", x.deedTold(0, what), told[what]);
            }
            due("call 0", x.told(0, 0, 0), 0);
            due("call 1", x.told(0, 1, 1), 2);
            due("call 3", x.told(0, 3, 2), 6);
            due("sheets stay", x.mark(0, 2, 1), 1);
            due("slots stay", x.rest(0, 5), 4);
            due("texts", x.why(2), 0);
        }
        x.deed(0, 0, 0);
        promise = 44;
        due("kept anew", x.keep(), 2);
        x.back();
        promise = 45;
        due("as the last image", x.count(1), 2);

        OakDeeds gone = new OakDeeds();
        gone.keep();
        rectangle(gone, 505, 77, 10, 6);
        gone.back();
        promise = 25;
        due("a deed that is gone", gone.learn(77), NONE);
        gone.deed(0, 5, 0);
        due("a deed that is gone", gone.learn(77), NONE);
        promise = 46;
        due("its calls are gone", gone.count(2), 0);
        due("a new deed has none of them", gone.deedTold(0, 4), 0);
        due("stones", x.count(0), 1);
        due("deeds", x.count(1), 2);
        due("calls", x.count(2), 4);
        x.call(1, 0, 1);
        due("calls of all", x.count(2), 5);
        due("texts", x.count(3), 2);
        due("waiting", x.count(4), 2);
        x.feed(0, 0, 0);
        due("bytes", x.count(5), 12);
        due("z", x.count(6), 77);
        due("what 7", x.count(7), BAD);
        due("what -1", x.count(-1), BAD);
    }
}
