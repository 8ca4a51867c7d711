import java.lang.reflect.Method;
import java.util.ArrayList;
import java.util.HashMap;
import java.util.List;
import java.util.Map;
import java.util.Random;

/** Runs of calls drawn by lot, on OakDeeds and on the Model: every answer must be the same. */
public final class ModelRuns {
    /** What each parameter is drawn as, a letter each; see drawArgument. */
    private static final String FACE = "stone:PP stoneTold:Sw move:SPP deed:BYK deedTold:DW set:Dwv call:DkR told:DCW "
            + "as:DCk turns:DCk drop:DC deal:DN seed:V corner:DIw gap:D area:D holds:DB field:D over:DD whose:B "
            + "owned:D slip:DW best:DW learn:Y near:Sw would:SPP feed:VVV trim:T text: textTold:Tw why:w sheet:son "
            + "mark:spx pour:sD reads:sD copy:spspm lay:ltq ask:lk item:lp rest:lr tell:r check:D keep: back: count:W";

    private final Random lot;
    private final Map<String, Method> oakMethods;
    private final Map<String, Method> modelMethods;
    private final List<String> history = new ArrayList<>();
    private OakDeeds oak;
    private Model model;
    private int calls;
    private boolean wrong;

    private ModelRuns(long seed, Map<String, Method> oakMethods, Map<String, Method> modelMethods) {
        this.lot = new Random(seed);
        this.oakMethods = oakMethods;
        this.modelMethods = modelMethods;
    }

    public static void main(String[] args) throws Exception {
        int runs = args.length > 0 ? Integer.parseInt(args[0]) : 400;
        long from = args.length > 1 ? Long.parseLong(args[1]) : 1;
        Map<String, Method> oaks = byName(OakDeeds.class);
        Map<String, Method> models = byName(Model.class);
        int failed = 0;
        long all = 0;
        for (int i = 0; i < runs && failed < 5; i++) {
            ModelRuns run = new ModelRuns(from + i, oaks, models);
            run.play();
            all += run.calls;
            if (run.wrong) {
                failed++;
                System.out.println("run " + (from + i) + ":\n  " + String.join("\n  ", run.history));
            }
        }
        System.out.println(all + " calls in " + runs + " runs against the model, " + failed + " runs went wrong");
        if (failed != 0) {
            System.exit(1);
        }
    }

    private static Map<String, Method> byName(Class<?> type) {
        Map<String, Method> all = new HashMap<>();
        for (Method m : type.getDeclaredMethods()) {
            if (java.lang.reflect.Modifier.isPublic(m.getModifiers())) {
                m.setAccessible(true);
                all.put(m.getName(), m);
            }
        }
        return all;
    }

    private void play() throws Exception {
        oak = new OakDeeds();
        model = new Model();
        String[] face = FACE.split(" ");
        boolean wild = lot.nextInt(10) == 0;
        if (!wild) {
            prepare();
        }
        int most = 40 + lot.nextInt(472);
        while (calls < most && !wrong) {
            int turn = lot.nextInt(18);
            if (turn == 17) {
                useSlots();
            } else if (turn == 16 && lot.nextInt(20) == 0) {
                fillUp();
            } else if (turn == 0) {
                tellText();
            } else if (turn == 1) {
                tellCorners();
            } else if (turn == 2) {
                writeCorners();
            } else if (turn == 3) {
                writeRuns();
            } else {
                drawCall(face[lot.nextInt(face.length)], wild);
            }
        }
    }

    private void prepare() throws Exception {
        for (int i = lot.nextInt(9); i > 0; i--) {
            both("stone", lot.nextInt(40) - 5, lot.nextInt(40) - 5);
        }
        for (int d = 0; d < 1 + lot.nextInt(4); d++) {
            both("deed", 100 * lot.nextInt(30) + lot.nextInt(30), drawArgument('Y'), lot.nextInt(19) - 9);
            for (int i = lot.nextInt(11); i > 0; i--) {
                both("call", d, lot.nextInt(6), 100 * lot.nextInt(8) + 1 + lot.nextInt(20));
            }
        }
    }

    private void drawCall(String call, boolean wild) throws Exception {
        String[] parts = call.split(":", -1);
        // These take away what other calls need, so they come seldom.
        if (List.of("drop", "back", "text").contains(parts[0]) && lot.nextInt(3) > 0) {
            return;
        }
        int[] args = new int[parts[1].length()];
        for (int i = 0; i < args.length; i++) {
            args[i] = wild && lot.nextBoolean() ? drawWild() : drawArgument(parts[1].charAt(i));
        }
        both(parts[0], args);
    }

    private int drawWild() {
        int[] edges = {Integer.MIN_VALUE, Integer.MAX_VALUE, -1, 0, 1, OakDeeds.NONE, 100, -100, Integer.MIN_VALUE + 1};
        return lot.nextInt(3) == 0 ? lot.nextInt() : edges[lot.nextInt(edges.length)];
    }

    private int drawArgument(char sort) {
        boolean odd = lot.nextInt(25) == 0;
        if (odd && lot.nextInt(4) == 0) {
            return drawWild();
        }
        switch (sort) {
            case 'P':
                return odd ? pick(-100, -99, 99, 100) : lot.nextInt(40) - 5;
            case 'S':
                return odd ? pick(-1, 8) : lot.nextInt(8);
            case 'D':
                return odd ? pick(-2, -1, 4) : lot.nextInt(3);
            case 'B':
                return odd ? pick(30, 2930, 3000, -1, 2929) : 100 * lot.nextInt(30) + lot.nextInt(30);
            case 'Y':
                return odd ? pick(-1, 1000, 999) : pick(0, 5, 731, 740);
            case 'K':
                return odd ? pick(-10, 10) : lot.nextInt(19) - 9;
            case 'k':
                return odd ? pick(-1, 6) : lot.nextInt(6);
            case 'R':
                return odd ? pick(100, 121, 801, -1, 0) : 100 * lot.nextInt(8) + 1 + lot.nextInt(20);
            case 'C':
                return odd ? pick(-1, 10) : lot.nextInt(8);
            case 'N':
                return odd ? pick(0, 11, -1) : 1 + lot.nextInt(10);
            case 'I':
                return odd ? pick(-1, 11) : lot.nextInt(11);
            case 'W':
                return odd ? pick(-1, 8) : lot.nextInt(7);
            case 'w':
                return odd ? pick(-1, 3) : lot.nextInt(3);
            case 'v':
                return pick(drawArgument('Y'), drawArgument('K'), drawArgument('B'));
            case 'T':
                return odd ? pick(-1, 97) : lot.nextInt(15);
            case 's':
                return odd ? pick(-1, 4) : lot.nextInt(4);
            case 'o':
                return odd ? pick(-2, 2) : lot.nextInt(8) == 0 ? -1 : lot.nextInt(2);
            case 'n':
                return odd ? pick(-1, 25) : lot.nextInt(25);
            case 'p':
                return odd ? pick(-1, 24, 25) : lot.nextInt(24);
            case 'x':
                return odd ? pick(-100000, 100000, 99999, -99999, 65536) : pick(OakDeeds.NONE, lot.nextInt(40), 40000, -7);
            case 'm':
                return odd ? pick(-1, 25) : lot.nextInt(12);
            case 'l':
                return odd ? pick(-1, 5) : lot.nextInt(5);
            case 't':
                return odd ? pick(-1, 4) : lot.nextInt(4);
            case 'q':
                return odd ? pick(-1, 4) : lot.nextInt(2) == 0 ? lot.nextInt(4) : 100 * lot.nextInt(4) + lot.nextInt(9);
            case 'r':
                return odd ? drawWild() : lot.nextInt(9) - 4;
            default:
                return lot.nextInt();
        }
    }

    private int pick(int... of) {
        return of[lot.nextInt(of.length)];
    }

    private void tellText() throws Exception {
        String key = List.of("needle", "chain", "first").get(lot.nextInt(3));
        String t = blanks() + key + " " + blanks() + drawWords(key, lot.nextInt(5)) + blanks();
        if (lot.nextInt(3) == 0) {
            t = spoil(t);
        }
        t = t.substring(0, Math.min(96, t.length()));
        int old = model.count(5);
        if (old > 0) {
            both("trim", 0);
        }
        String whole = t + " ".repeat((12 - t.length() % 12) % 12);
        for (int i = 0; i < whole.length(); i += 12) {
            both("feed", four(whole, i), four(whole, i + 4), four(whole, i + 8));
        }
        both("trim", t.length());
        history.add("tape is \"" + t + "\"");
        both("text");
        for (int d = 0; d < model.count(1); d++) {
            both("deedTold", d, 5);
            both("deedTold", d, 6);
            both("deedTold", d, 7);
        }
    }

    private static int four(String t, int at) {
        return t.charAt(at) << 24 | t.charAt(at + 1) << 16 | t.charAt(at + 2) << 8 | t.charAt(at + 3);
    }

    private String blanks() {
        return " ".repeat(lot.nextInt(4) == 0 ? 1 + lot.nextInt(2) : 0);
    }

    private String drawWords(String key, int depth) {
        int turn = lot.nextInt(6);
        if (depth <= 0 || turn == 0) {
            String names = key.equals("needle") ? "y" : key.equals("chain") ? "ys" : "ync";
            boolean name = lot.nextBoolean();
            return name ? "" + names.charAt(lot.nextInt(names.length())) : "" + lot.nextInt(pick(3, 10, 10000));
        }
        if (turn == 1) {
            return "!".repeat(lot.nextInt(8) == 0 ? 1 + lot.nextInt(9) : 1) + blanks() + drawWords(key, depth - 1);
        }
        if (turn == 2) {
            int many = lot.nextInt(8) == 0 ? 1 + lot.nextInt(9) : 1;
            String not = lot.nextInt(4) == 0 ? "!" : "";
            return (not + "(").repeat(many) + blanks() + drawWords(key, depth - 1) + ")".repeat(many);
        }
        char sign = "|&<=>+-*/".charAt(lot.nextInt(9));
        return drawWords(key, depth - 1) + blanks() + sign + blanks() + drawWords(key, depth - 1);
    }

    private String spoil(String t) {
        StringBuilder b = new StringBuilder(t);
        String some = "ysnc0129()!|&<=>+-*/ \tA\u00ff";
        for (int i = 0; i < 1 + lot.nextInt(2); i++) {
            int at = lot.nextInt(b.length());
            int turn = lot.nextInt(4);
            if (turn == 0 && b.length() > 1) {
                b.deleteCharAt(at);
            } else if (turn == 1) {
                b.insert(at, some.charAt(lot.nextInt(some.length())));
            } else if (turn == 2) {
                b.setCharAt(at, some.charAt(lot.nextInt(some.length())));
            } else {
                b.setLength(at + 1);
            }
        }
        return b.toString();
    }

    /** Numbers that wait are seldom right by lot: the model says what is due, and some are spoilt. */
    private void tellCorners() throws Exception {
        int d = lot.nextInt(4);
        if (model.count(4) > 0) {
            both("check", d);
        }
        both("keep");
        int many = 2 * Math.max(0, model.deedTold(d, 4)) + pick(0, 0, 0, -1, 1);
        int spoilt = lot.nextInt(4) == 0 ? lot.nextInt(20) : -1;
        for (int i = 0; i < many; i++) {
            both("tell", model.corner(d, 1 + i / 2, i % 2) + (i == spoilt ? 1 : 0));
        }
        if (lot.nextInt(3) == 0) {
            both("set", d, 1, lot.nextInt(19) - 9);
        }
        both("check", d);
    }

    private void writeCorners() throws Exception {
        int d = lot.nextInt(3);
        int sheet = lot.nextInt(4);
        int many = Math.min(24, 2 * Math.max(0, model.deedTold(d, 4)) + 2);
        both("sheet", sheet, lot.nextInt(2), many);
        for (int i = 0; i < many; i++) {
            both("mark", sheet, i, lot.nextInt(9) == 0 ? OakDeeds.NONE : model.corner(d, i / 2, i % 2));
        }
        both("reads", sheet, d);
    }

    private void writeRuns() throws Exception {
        int sheet = lot.nextInt(4);
        int many = lot.nextInt(12);
        both("sheet", sheet, lot.nextInt(2), many);
        for (int i = 0; i < many; i++) {
            both("mark", sheet, i, lot.nextInt(9) == 0 ? pick(OakDeeds.NONE, 0, 821, -5) : drawArgument('R'));
        }
        both("pour", sheet, lot.nextInt(3));
    }

    private void useSlots() throws Exception {
        int slot = lot.nextInt(5);
        int thing = lot.nextInt(4);
        int k = thing == 1 ? 100 * lot.nextInt(4) + lot.nextInt(6) : lot.nextInt(thing == 2 ? 4 : 1000) - thing / 3 * 500;
        both("lay", slot, thing, k);
        for (int i = 0; i < 6; i++) {
            both("ask", slot, i);
            both("item", slot, lot.nextInt(12));
            both("rest", slot, lot.nextInt(20) - 10);
        }
    }

    /** Brings one of the rows that have a limit up to it, and beyond. */
    private void fillUp() throws Exception {
        int which = lot.nextInt(3);
        for (int i = 0; i < (which == 0 ? 62 : which == 1 ? 9 : 15); i++) {
            if (which == 0) {
                both("tell", i);
            } else if (which == 1) {
                both("feed", lot.nextInt(), lot.nextInt(), lot.nextInt());
            } else {
                tellText();
            }
        }
    }

    private void both(String name, int... args) throws Exception {
        if (wrong || calls >= 512) {
            return;
        }
        Object[] boxed = new Object[args.length];
        for (int i = 0; i < args.length; i++) {
            boxed[i] = args[i];
        }
        calls++;
        Object got;
        try {
            got = oakMethods.get(name).invoke(oak, boxed);
        } catch (java.lang.reflect.InvocationTargetException e) {
            got = e.getCause();
        }
        Object want = modelMethods.get(name).invoke(model, boxed);
        String row = name + java.util.Arrays.toString(args) + " answered " + got;
        if (!want.equals(got)) {
            wrong = true;
            row += ", due is " + want;
        }
        history.add(row);
    }
}
