/** The sentences on the tape and on texts (Terms 4, promises 28 to 32): a test for each. */
final class TextSentences {
    private static final int BAD = Oak.BAD, FULL = Oak.FULL, NONE = Oak.NONE;

    /** As many bytes as the tape has at most, with 45 names. */
    private static final String LONGEST = "first(y)" + "+y".repeat(44);

    private TextSentences() {
    }

    static void run() {
        Says.in("Terms 4");
        texts();
        grammar();
        names();
        words();
        blanks();
        faults();
        values();
        feedAndTrim();
        told();
    }

    /** What a new object answers to a text: 0, or -100 less the place of its fault. */
    private static int told(String bytes) {
        return Oak.text(new OakDeeds(), bytes);
    }

    private static void right(String bytes) {
        reads(bytes, 0, 1);
    }

    private static void fault(String bytes, int place) {
        reads(bytes, -100 - place, 0);
    }

    /** Whatever a new object answers to a text, the next text is read from its own first byte on. */
    private static void reads(String bytes, int answer, int numberOfNext) {
        OakDeeds x = new OakDeeds();
        Says.due("\"" + bytes + "\"", Oak.text(x, bytes), answer);
        Says.due("a text behind \"" + bytes + "\"", Oak.text(x, "first y"), numberOfNext);
    }

    private static void gives(String e, int value) {
        Says.due(e, TermSentences.rank(e), value);
    }

    private static void texts() {
        Says.says("TEXTS, 14 at most, numbered from 0, from THE TAPE (96 bytes at most; an act that reads it uses it up, whatever it answers): KEY E.");
        OakDeeds x = new OakDeeds();
        for (int i = 0; i < 14; i++) {
            Says.due("a text", Oak.text(x, "first y"), i);
            Says.due("used up by what is right", x.count(5), 0);
        }
        Says.due("a fifteenth", Oak.text(x, "first y"), FULL);
        Says.due("used up by what is full", x.count(5), 0);
        Says.due("no tape", x.text(), -100);
        Says.due("a fifteenth with a fault", Oak.text(x, "first y)"), -107);
        Says.due("used up by what has a fault", x.count(5), 0);
        Says.due("texts", x.count(3), 14);
        OakDeeds longest = new OakDeeds();
        Oak.tape(longest, LONGEST);
        Says.due("the longest tape", longest.count(5), 96);
        Says.due("twelve more", longest.feed(0, 0, 0), FULL);
        Says.due("the longest text", longest.text(), 0);
        Says.due("its names", longest.textTold(0, 1), 45);
        fault("first", 5);
        fault("y", 0);
        right("first y");

        Says.says("KEY: needle | chain | first.");
        String[] keys = {"needle", "chain", "first"};
        OakDeeds k = new OakDeeds();
        for (int i = 0; i < 3; i++) {
            Says.due(keys[i], Oak.text(k, keys[i] + " y"), i);
            Says.due("key of " + keys[i], k.textTold(i, 0), i);
            for (int cut = 0; cut < keys[i].length(); cut++) {
                fault(keys[i].substring(0, cut) + "y", 0);
                fault(keys[i].substring(0, cut) + "z" + keys[i].substring(cut + 1) + " y", 0);
            }
            fault(keys[i] + "s y", 0);
        }
        for (String word : new String[] {"last y", "First y", "NEEDLE y", "chain: y", "0 y", "(first) y", "!first y"}) {
            fault(word, word.startsWith("chain") ? 5 : 0);
        }
        fault("first first y", 6);
        fault("needle chain", 7);
    }

    private static void grammar() {
        Says.says("E, the loosest first: OR: AND { | AND }; AND: TEST { & TEST }; TEST: SUM [ (< | = | >) SUM ]; SUM: TERM { (+ | -) TERM }; TERM: PIECE { (* | /) PIECE }; PIECE: NUMBER (1 to 4 digits) | NAME | ! PIECE | ( E ).");
        gives("0|0|2", 1);
        gives("1|0&0", 1);
        gives("0&0|1", 1);
        gives("1&1&0", 0);
        gives("2&2=2", 1);
        gives("0=1|1", 1);
        gives("1+1<3", 1);
        gives("3>1+1", 1);
        gives("2=1+1&1", 1);
        gives("1+2*3", 7);
        gives("2*3+1", 7);
        gives("7-2-1", 4);
        gives("7-2+1", 6);
        gives("8/4/2", 1);
        gives("7/2*2", 6);
        gives("!0+1", 2);
        gives("!0*5", 5);
        gives("!0=1", 1);
        gives("!!5", 1);
        gives("(1+2)*3", 9);
        gives("7-(2-1)", 6);
        gives("(1<2)<3", 1);
        gives("((((y))))", 5);
        gives("0", 0);
        gives("9999", 9999);
        gives("0000", 0);
        gives("0009", 9);
        gives("12", 12);
        gives("345", 345);
        String[] wrong = {"", "|1", "1|", "1||2", "&1", "1&", "1&&2", "<1", "1<", "1<2<3", "1=2>3", "1>2=3", "1<=2", "+1",
            "-1", "1+", "1-", "1+-2", "*1", "/1", "1*", "1/", "1//2", "1**2", "!", "1!", "1!2", "!|1", "()", "(1", "1)",
            "(1)2", "(1)(2)", "1(2)", "(1+)", "(+1)", "12345", "00000", "yy", "y y", "1 1", "[1]", "{1}", "1%2", "1^2",
            "~1", "1,2", "1.5", "1?2", "z"};
        int[] places = {6, 6, 8, 8, 6, 8, 8, 6, 8, 9, 9, 9, 8, 6, 6, 8, 8, 8, 6, 6, 8, 8, 8, 8, 7, 7, 7, 7, 7, 8, 7,
            9, 9, 7, 9, 7, 6, 6, 6, 8, 8, 6, 6, 7, 7, 6, 7, 7, 7, 6};
        for (int i = 0; i < wrong.length; i++) {
            fault("first " + wrong[i], places[i]);
        }
    }

    private static void names() {
        Says.says("NAMES, each one letter: of needle y YEAR; of chain y YEAR, s SLACK; of first y YEAR, n the DEED, c how many CALLS it has.");
        String[] keys = {"needle", "chain", "first"};
        String[] names = {"y", "ys", "ync"};
        for (int key = 0; key < 3; key++) {
            for (char letter = 'a'; letter <= 'z'; letter++) {
                boolean is = names[key].indexOf(letter) >= 0;
                String text = keys[key] + " " + letter;
                Says.due(text, told(text), is ? 0 : -101 - keys[key].length());
                fault(text + letter, keys[key].length() + 1);
            }
        }
        OakDeeds x = new OakDeeds();
        x.deed(0, 0, 9);
        x.deed(0, 5, -3);
        Oak.addCalls(x, 1, 0, 1, 0, 2);
        Oak.text(x, "needle y");
        Says.due("needle y", x.deedTold(1, 5), 5);
        Says.due("needle y of the other", x.deedTold(0, 5), 0);
        Oak.text(x, "chain y");
        Says.due("chain y", x.deedTold(1, 6), 5);
        Oak.text(x, "chain s");
        Says.due("chain s", x.deedTold(1, 6), -3);
        Says.due("chain s of the other", x.deedTold(0, 6), 9);
        x.set(1, 1, 4);
        Says.due("chain s of another slack", x.deedTold(1, 6), 4);
        Oak.text(x, "first y");
        Says.due("first y", x.deedTold(1, 7), 5);
        x.set(1, 0, 999);
        Says.due("first y of another year", x.deedTold(1, 7), 999);
        Oak.text(x, "first n");
        Says.due("first n", x.deedTold(1, 7), 1);
        Says.due("first n of the other", x.deedTold(0, 7), 0);
        Oak.text(x, "first c");
        Says.due("first c", x.deedTold(1, 7), 2);
        Says.due("first c of the other", x.deedTold(0, 7), 0);
        x.deal(1, 10);
        Says.due("first c of ten", x.deedTold(1, 7), 10);
    }

    private static void words() {
        Says.says("A word is a row of letters a .. z, or of digits, as long as it goes; any other byte is a sign by itself.");
        for (int b = 0; b < 256; b++) {
            char c = (char) b;
            boolean letter = b >= 'a' && b <= 'z';
            boolean digit = b >= '0' && b <= '9';
            boolean join = "|&<=>+-*/".indexOf(c) >= 0;
            Says.due("the byte " + b + " ahead of all", told(c + "first y"), b == 32 ? 0 : -100);
            int behindName = b == 32 ? 0 : letter ? -106 : join ? -108 : -107;
            Says.due("the byte " + b + " behind a name", told("first y" + c), behindName);
            int behindNumber = b == 32 || digit ? 0 : join ? -108 : -107;
            Says.due("the byte " + b + " behind a number", told("first 1" + c), behindNumber);
            int between = b == 32 || b == '!' ? 0 : letter ? -100 : b == '(' ? -107 : -105;
            Says.due("the byte " + b + " between", told("first" + c + "y"), between);
            boolean inPlace = "ync".indexOf(c) >= 0 || digit;
            int alone = inPlace ? 0 : b == 32 || b == '!' || b == '(' ? -107 : -106;
            Says.due("the byte " + b + " in place of a piece", told("first " + c), alone);
        }
        OakDeeds x = new OakDeeds();
        Oak.text(x, "first 1234");
        Says.due("one number of four digits", x.textTold(0, 1), 1);
        Oak.text(x, "first 1+2+3+4");
        Says.due("four numbers", x.textTold(1, 1), 4);
        fault("firsty", 0);
        fault("needley", 0);
        fault("first yn", 6);
        fault("first 1 234 y", 8);
        gives("9876", 9876);
        gives("y+1", 6);
        gives("!y", 0);
        gives("!!y", 1);
    }

    private static void blanks() {
        Says.says("Between words and signs, and at the ends, there may be blanks (byte 32); a word right behind another one needs one.");
        right("   first   y   ");
        right("first y" + " ".repeat(89));
        right(" ".repeat(89) + "first y");
        right(" first ( ! y + 1 ) * 2 < 3 ");
        right("first(!y+1)*2<3");
        right("first!y");
        right("first(y)");
        gives("  7  -  2  ", 5);
        fault("first5", 5);
        fault("first12345", 5);
        fault("needle7", 6);
        fault("first y5", 7);
        fault("first 5y", 7);
        fault("first 5 y", 8);
        fault("first y 5", 8);
        fault("firsty", 0);
        fault("fir st y", 0);
        fault("first 1 2", 8);
        fault("first\ty", 5);
        fault("first y\n", 7);
        fault("first\0y", 5);
        fault("first\u00a0y", 5);
        fault(" ".repeat(96), 96);
        fault("first" + " ".repeat(91), 96);
    }

    private static void faults() {
        Says.says("FAULT: the first byte of the first word or sign with which no TEXT goes on (a word that needs a blank ahead of it, a NUMBER of more than 4 digits, the ninth ( that would be open within others, the ninth ! likewise, each by itself); the end (the place behind the last byte), if it comes too soon.");
        fault("first y ) (", 8);
        fault("first s + q", 6);
        fault("   second y", 3);
        fault("first y  yyy", 9);
        fault("first 1+1234y", 12);
        fault("first 1+y1234", 9);
        fault("first 1+12345", 8);
        fault("first 1+99999y", 8);
        right("first 1+1234");
        right("first " + "(".repeat(8) + "y" + ")".repeat(8));
        fault("first " + "(".repeat(9) + "y" + ")".repeat(9), 14);
        fault("first " + "(".repeat(20), 14);
        right("first " + "(".repeat(8) + "y" + ")".repeat(8) + "+" + "(".repeat(8) + "y" + ")".repeat(8));
        right("first " + "(".repeat(7) + "(y)+(y)+(y)" + ")".repeat(7));
        fault("first " + "(".repeat(7) + "(y)+((y))" + ")".repeat(7), 18);
        right("first " + "(y)+".repeat(12) + "y");
        right("first " + "!".repeat(8) + "y");
        fault("first " + "!".repeat(9) + "y", 14);
        fault("first " + "!".repeat(20), 14);
        right("first " + "!".repeat(8) + "y+" + "!".repeat(8) + "y");
        right("first " + "!y+".repeat(12) + "y");
        right("first " + "!(".repeat(8) + "y" + ")".repeat(8));
        right("first " + "(".repeat(8) + "!".repeat(8) + "y" + ")".repeat(8));
        fault("first " + "!(".repeat(8) + "(y" + ")".repeat(9), 22);
        fault("first " + "!(".repeat(8) + "!y" + ")".repeat(8), 22);
        fault("", 0);
        fault(" ", 1);
        fault("first", 5);
        fault("first ", 6);
        fault("first (", 7);
        fault("first (y", 8);
        fault("first (y ", 9);
        fault("first ((y)", 10);
        fault("first y+", 8);
        fault("first !", 7);
        fault("first(y)" + "+y".repeat(43) + " +", 96);
    }

    private static void values() {
        Says.says("Ints wrap; / is 0 by 0; tests, & | ! give 1 or 0 (what is not 0 is true; both sides are worked out).");
        gives("2048*1024*1024", Integer.MIN_VALUE);
        gives("2048*1024*1024-1", Integer.MAX_VALUE);
        gives("(2048*1024*1024-1)+1", Integer.MIN_VALUE);
        gives("0-2048*1024*1024", Integer.MIN_VALUE);
        gives("2048*1024*1024/(0-1)", Integer.MIN_VALUE);
        gives("2048*1024*2048", 0);
        gives("9999*9999*9999", 9999 * 9999 * 9999);
        gives("7/0", 0);
        gives("0/0", 0);
        gives("(0-7)/0", 0);
        gives("7/(y-5)+3", 3);
        gives("2<3", 1);
        gives("3<3", 0);
        gives("3<2", 0);
        gives("2=3", 0);
        gives("3=3", 1);
        gives("3>2", 1);
        gives("3>3", 0);
        gives("2>3", 0);
        gives("(0-1)<0", 1);
        gives("2048*1024*1024<0", 1);
        gives("5&3", 1);
        gives("4&2", 1);
        gives("5&0", 0);
        gives("0&5", 0);
        gives("0&0", 0);
        gives("5|0", 1);
        gives("0|5", 1);
        gives("4|2", 1);
        gives("0|0", 0);
        gives("(0-1)&(0-2)", 1);
        gives("(0-1)|0", 1);
        gives("!0", 1);
        gives("!1", 0);
        gives("!7", 0);
        gives("!(0-1)", 0);
        gives("1|7/0", 1);
        gives("0&7/0", 0);

        Says.says("Of a KEY that TEXT counts that was told last.");
        OakDeeds x = new OakDeeds();
        x.deed(0, 5, 0);
        String[] told = {"first 1", "first 2", "needle 3", "first 4", "chain 5", "needle 6", "chain 7", "first 8"};
        int[] counts = {NONE, NONE, NONE};
        for (int i = 0; i < told.length; i++) {
            Oak.text(x, told[i]);
            int key = "ncf".indexOf(told[i].charAt(0));
            counts[key] = i;
            for (int k = 0; k < 3; k++) {
                Says.due("counts behind " + told[i], x.why(k), counts[k]);
            }
            Says.due("what it gives", x.deedTold(0, 5 + key), told[i].charAt(told[i].length() - 1) - '0');
        }
        Oak.text(x, "first 9)");
        Says.due("a fault does not count", x.deedTold(0, 7), 8);
    }

    private static void feedAndTrim() {
        Says.in("Promise 28");
        Says.says("`int feed(int a, int b, int c)`: Twelve bytes come to THE TAPE, the highest of each number first: how many it has.");
        OakDeeds x = new OakDeeds();
        x.deed(0, 5, 0);
        x.deed(0, 6, 0);
        // "firs", "t y-", "n*3 "
        Says.due("twelve", x.feed(0x66697273, 0x7420792d, 0x6e2a3320), 12);
        Says.due("a text", x.text(), 0);
        Says.due("what it gives", x.deedTold(1, 7), 3);
        Says.due("first twelve", x.feed(0x66697273, 0x74202020, 0x20202020), 12);
        Says.due("twelve behind them", x.feed(0x38202020, 0x20202020, 0x20202020), 24);
        Says.due("a text", x.text(), 1);
        Says.due("what it gives", x.deedTold(0, 7), 8);
        Says.due("bytes with the highest bit", x.feed(0x66697273, 0x742079ff, 0xfefdfcfb), 12);
        Says.due("their place", x.text(), -107);
        for (int i = 1; i <= 8; i++) {
            Says.due("feed " + i, x.feed(-1, Oak.LOW, Oak.HIGH), 12 * i);
        }

        Says.says("FULL: it would have more than 96.");
        for (int has = 80; has <= 96; has++) {
            OakDeeds full = new OakDeeds();
            Oak.tape(full, LONGEST.substring(0, has));
            Says.due("12 more than " + has, full.feed(0x20202020, 0x20202020, 0x20202020), has <= 84 ? has + 12 : FULL);
            Says.due("bytes then", full.count(5), has <= 84 ? has + 12 : has);
        }
        Says.refusedAfter("12 more than 95", TextSentences::addBlanks, y -> y.feed(0x29292929, 0x29292929, 0x29292929),
                FULL);

        Says.in("Promise 29");
        Says.says("`int trim(int n)`: THE TAPE keeps its first n bytes: n.");
        for (int n = 0; n <= 96; n++) {
            OakDeeds y = new OakDeeds();
            Oak.tape(y, LONGEST);
            Says.due("trim to " + n, y.trim(n), n);
            Says.due("bytes then", y.count(5), n);
            boolean isText = n >= 8 && n % 2 == 0;
            Says.due("a text then", y.text(), isText ? 0 : -100 - (n < 5 ? 0 : n));
        }
        Says.due("nothing of nothing", new OakDeeds().trim(0), 0);

        Says.says("BAD.");
        for (int n : new int[] {-1, 12, 13, 95, 96, 97, -96, 256, Oak.LOW, Oak.HIGH}) {
            Says.refused("trim 11 bytes to " + n, y -> y.trim(n), BAD);
        }
        Says.due("above what there is", new OakDeeds().trim(1), BAD);
        Says.due("below 0", new OakDeeds().trim(-1), BAD);
        OakDeeds longest = new OakDeeds();
        Oak.tape(longest, LONGEST);
        Says.due("above 96", longest.trim(97), BAD);
    }

    /** Blanks behind the world's tape, until twelve more are too many. */
    private static void addBlanks(OakDeeds x) {
        for (int i = 0; i < 7; i++) {
            x.feed(0x20202020, 0x20202020, 0x20202020);
        }
    }

    private static void told() {
        Says.in("Promise 30");
        Says.says("`int text()`: THE TAPE is a TEXT: its number.");
        OakDeeds x = new OakDeeds();
        String[] texts = {"first y", "needle y", "chain s"};
        for (int i = 0; i < 14; i++) {
            Says.due("text " + i, Oak.text(x, texts[i % 3]), i);
            Says.due("how many", x.count(3), i + 1);
        }

        Says.says("-100 less the place of its FAULT; FULL.");
        for (int place = 0; place < 96; place++) {
            fault(" ".repeat(place) + "?", place);
            fault(" ".repeat(place), place);
        }
        fault(" ".repeat(96), 96);
        Says.refusedButTape("a fault", y -> Oak.tape(y, "first n*7+y)"), OakDeeds::text, -111);
        Says.refusedButTape("no tape", y -> y.trim(0), OakDeeds::text, -100);
        Says.refusedButTape("14 texts", y -> TermSentences.fillTexts(y, "first n*7+y"), OakDeeds::text, FULL);
        Says.refusedButTape("14 texts, and a fault", y -> TermSentences.fillTexts(y, "first 12345"), OakDeeds::text, -106);
        Says.due("a fifteenth", Oak.text(x, "first y"), FULL);

        Says.in("Promise 31");
        Says.says("`int textTold(int text, int what)`: Of a TEXT: what 0 KEY (0 needle, 1 chain, 2 first), 1 how many NUMBERS and NAMES it has.");
        String[] told = {"needle 0", "chain !!(s)", "first y", "first 1+n*(c-2222)|y&0=0", "chain 0+0+0"};
        int[] keys = {0, 1, 2, 2, 1};
        int[] atoms = {1, 1, 1, 7, 3};
        OakDeeds t = new OakDeeds();
        for (int i = 0; i < told.length; i++) {
            Says.due(told[i], Oak.text(t, told[i]), i);
            Says.due("its key", t.textTold(i, 0), keys[i]);
            Says.due("its numbers and names", t.textTold(i, 1), atoms[i]);
        }
        Oak.text(t, LONGEST);
        Says.due("of the longest", t.textTold(5, 1), 45);

        Says.says("BAD.");
        for (int text : Says.outside(0, 2)) {
            Says.refused("text " + text, y -> y.textTold(text, 0), BAD);
        }
        for (int what : Says.outside(0, 1)) {
            Says.refused("what " + what, y -> y.textTold(0, what), BAD);
        }
        Says.due("there are no texts", new OakDeeds().textTold(0, 0), BAD);
        Says.due("the last of 14", x.textTold(13, 0), 0);
        Says.due("behind the last of 14", x.textTold(14, 0), BAD);

        Says.in("Promise 32");
        Says.says("`int why(int key)`: The TEXT that counts for a KEY.");
        Says.due("needle", x.why(0), 13);
        Says.due("chain", x.why(1), 11);
        Says.due("first", x.why(2), 12);
        OakDeeds again = Oak.world();
        Says.due("chain, behind the image", again.why(1), 2);
        again.back();
        Says.due("first, of the image", again.why(2), 1);
        Says.due("chain, not in the image", again.why(1), NONE);

        Says.says("BAD; NONE.");
        for (int key : Says.outside(0, 2)) {
            Says.refused("key " + key, y -> y.why(key), BAD);
        }
        for (int key = 0; key < 3; key++) {
            Says.due("no texts", new OakDeeds().why(key), NONE);
            OakDeeds one = new OakDeeds();
            Oak.text(one, texts[key]);
            int is = (key + 2) % 3;
            for (int k = 0; k < 3; k++) {
                Says.due("one text", one.why(k), k == is ? 0 : NONE);
            }
        }
    }
}
