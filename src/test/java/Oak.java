import java.util.ArrayList;
import java.util.List;

/** What tests do with objects of the class: texts told in one go, lands made, all that can be read read. */
final class Oak {
    static final int BAD = OakDeeds.BAD, NO = OakDeeds.NO, FULL = OakDeeds.FULL, NONE = OakDeeds.NONE;
    static final int NOTHING = OakDeeds.NOTHING, KIND = OakDeeds.KIND, INDEX = OakDeeds.INDEX, SIZE = OakDeeds.SIZE;
    static final int LOW = Integer.MIN_VALUE, HIGH = Integer.MAX_VALUE;
    static final int[] WAY_X = {1, 1, 0, -1, -1, -1, 0, 1};
    static final int[] WAY_Y = {0, 1, 1, 1, 0, -1, -1, -1};

    private Oak() {
    }

    /** The tape becomes these bytes: fed in twelves, with the blanks behind them trimmed. */
    static void tape(OakDeeds x, String bytes) {
        String whole = bytes + " ".repeat((12 - bytes.length() % 12) % 12);
        x.trim(0);
        for (int i = 0; i < whole.length(); i += 12) {
            x.feed(four(whole, i), four(whole, i + 4), four(whole, i + 8));
        }
        x.trim(bytes.length());
    }

    private static int four(String t, int at) {
        return t.charAt(at) << 24 | t.charAt(at + 1) << 16 | t.charAt(at + 2) << 8 | t.charAt(at + 3);
    }

    static int text(OakDeeds x, String bytes) {
        tape(x, bytes);
        return x.text();
    }

    /** A deed whose four calls go around a rectangle, the right way about. */
    static int rectangle(OakDeeds x, int begins, int year, int wide, int high) {
        int deed = x.deed(begins, year, 0);
        x.call(deed, 0, wide);
        x.call(deed, 0, 200 + high);
        x.call(deed, 0, 400 + wide);
        x.call(deed, 0, 600 + high);
        return deed;
    }

    /** A new object with one deed that has these calls: a kind and a run by turns. */
    static OakDeeds oneDeed(int begins, int... kindsAndRuns) {
        OakDeeds x = new OakDeeds();
        x.deed(begins, 0, 0);
        addCalls(x, 0, kindsAndRuns);
        return x;
    }

    static void addCalls(OakDeeds x, int deed, int... kindsAndRuns) {
        for (int i = 0; i < kindsAndRuns.length; i += 2) {
            x.call(deed, kindsAndRuns[i], kindsAndRuns[i + 1]);
        }
    }

    /**
     * Something of all there is: 3 stones, 2 deeds of 6 and 3 calls, 3 texts, an image that is no more as the land is,
     * sheets of shorts (0, 4 places), floats (1, 3 places, the second no number), missing (2) and empty (3), slots with
     * a call (0), a sheet (1), a number (2) and nothing (3, 4), numbers that wait (the image's corners of deed 0) and a
     * tape that is a text.
     */
    static OakDeeds world() {
        OakDeeds x = new OakDeeds();
        x.stone(3, 4);
        x.stone(-7, 20);
        x.deed(505, 7, 3);
        addCalls(x, 0, 0, 3, 1, 104, 2, 205, 3, 302, 4, 407, 5, 508);
        x.deed(1010, 9, -2);
        addCalls(x, 1, 0, 712, 1, 220);
        text(x, "needle y-6");
        text(x, "first n*3-c");
        x.keep();
        for (int i = 1; i <= 6; i++) {
            x.tell(x.corner(0, i, 0));
            x.tell(x.corner(0, i, 1));
        }
        x.stone(9, 9);
        x.move(0, 5, 5);
        x.set(0, 0, 8);
        x.call(1, 3, 402);
        x.seed(77);
        text(x, "chain s/2");
        x.sheet(0, 0, 4);
        for (int i = 0; i < 4; i++) {
            x.mark(0, i, 101 + i);
        }
        x.sheet(1, 1, 3);
        x.mark(1, 0, -99999);
        x.mark(1, 1, NONE);
        x.sheet(3, 1, 0);
        x.lay(0, 1, 101);
        x.lay(1, 2, 1);
        x.lay(2, 3, -12345);
        tape(x, "first n*7+y");
        return x;
    }

    /** All that an image would keep, as it can be read. */
    static List<Integer> land(OakDeeds x) {
        List<Integer> all = new ArrayList<>();
        for (int what : new int[] {0, 1, 2, 3, 6}) {
            all.add(x.count(what));
        }
        for (int i = 0; i < x.count(0); i++) {
            all.add(x.stoneTold(i, 0));
            all.add(x.stoneTold(i, 1));
        }
        for (int d = 0; d < x.count(1); d++) {
            for (int what = 0; what < 8; what++) {
                all.add(x.deedTold(d, what));
            }
            for (int i = 0; i < x.deedTold(d, 4); i++) {
                for (int what = 0; what < 3; what++) {
                    all.add(x.told(d, i, what));
                }
            }
        }
        for (int i = 0; i < x.count(3); i++) {
            all.add(x.textTold(i, 0));
            all.add(x.textTold(i, 1));
        }
        for (int key = 0; key < 3; key++) {
            all.add(x.why(key));
        }
        return all;
    }

    /** The image, read by going back to it. */
    static List<Integer> image(OakDeeds x) {
        List<Integer> all = new ArrayList<>();
        all.add(x.back());
        all.addAll(land(x));
        return all;
    }

    /** Slots and sheets; sheets are read by way of the slot 4. */
    static List<Integer> slotsAndSheets(OakDeeds x) {
        List<Integer> all = new ArrayList<>();
        for (int slot = 0; slot < 5; slot++) {
            all.add(x.rest(slot, 1000003));
            all.add(x.ask(slot, 0));
            addItems(all, x, slot);
        }
        for (int sheet = 0; sheet < 4; sheet++) {
            all.add(x.lay(4, 2, sheet));
            addItems(all, x, 4);
        }
        return all;
    }

    private static void addItems(List<Integer> all, OakDeeds x, int slot) {
        for (int place = 0; place < 25; place++) {
            all.add(x.item(slot, place));
        }
    }

    /** Of the world: whether the same numbers wait as ever (the answer 0). */
    static List<Integer> waiting(OakDeeds x) {
        return List.of(x.count(4), x.check(0));
    }

    /** The tape, read by making it a text that counts. */
    static List<Integer> tapeTold(OakDeeds x) {
        return List.of(x.count(5), x.text(), x.deedTold(0, 7), x.deedTold(1, 7));
    }
}
