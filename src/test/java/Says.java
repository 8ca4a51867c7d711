import java.util.ArrayList;
import java.util.LinkedHashSet;
import java.util.List;
import java.util.Set;
import java.util.function.Consumer;
import java.util.function.Function;
import java.util.function.ToIntFunction;

/** What a sentence of the document says, asked of the class: answers are counted by the sentence they stand under. */
final class Says {
    private static final Set<String> SENTENCES = new LinkedHashSet<>();
    private static final Set<String> BROKEN = new LinkedHashSet<>();
    private static final List<String> FAULTS = new ArrayList<>();
    private static String section = "";
    private static String sentence = "";
    private static int asked = 0;
    private static int askedAhead = 0;

    private Says() {
    }

    static Set<String> sentences() {
        return SENTENCES;
    }

    /** Sentences under which an answer was not as due. */
    static Set<String> broken() {
        return BROKEN;
    }

    /** Sentences that stand twice, or without anything asked. */
    static List<String> faults() {
        endOfSentence();
        return FAULTS;
    }

    /** Tests of one kind; if the class throws, the sentence that was asked is broken, and the rest of them with it. */
    static void group(Runnable tests) {
        try {
            tests.run();
        } catch (RuntimeException | StackOverflowError e) {
            wrong("a call threw " + e);
        }
    }

    static int asked() {
        return asked;
    }

    static void in(String newSection) {
        endOfSentence();
        section = newSection;
        sentence = "";
    }

    /** A test begins: all that is asked from here on stands under this sentence. */
    static void says(String words) {
        endOfSentence();
        sentence = section + ": " + words;
        if (!SENTENCES.add(sentence)) {
            FAULTS.add("stands twice: " + sentence);
        }
        askedAhead = asked;
    }

    private static void endOfSentence() {
        if (!sentence.isEmpty() && asked == askedAhead) {
            FAULTS.add("nothing is asked: " + sentence);
        }
    }

    static void due(String call, int got, int want) {
        asked++;
        if (got != want) {
            wrong(call + " answered " + got + ", due is " + want);
        }
    }

    static void due(String what, boolean got, boolean want) {
        due(what, got ? 1 : 0, want ? 1 : 0);
    }

    private static void same(String what, List<Integer> got, List<Integer> want) {
        asked++;
        if (!got.equals(want)) {
            wrong(what + " is " + got + ", due is " + want);
        }
    }

    private static void wrong(String what) {
        BROKEN.add(sentence);
        System.out.println(sentence + "\n    " + what);
    }

    /** Numbers outside of a range: right beside it, far off, and such that end within it if bits are lost. */
    static int[] outside(int least, int most) {
        return new int[] {least - 1, most + 1, least - 256, most + 256, least - 65536, least + 65536, least + (1 << 30),
            least + Oak.LOW, Oak.LOW, Oak.HIGH};
    }

    /** Refused in the world, which stays as it is. */
    static void refused(String call, ToIntFunction<OakDeeds> asking, int want) {
        refusedAfter(call, x -> { }, asking, want);
    }

    static void refusedAfter(String call, Consumer<OakDeeds> made, ToIntFunction<OakDeeds> asking, int want) {
        refusedAlone(call, made, asking, want);
        unchanged(call + ": what waits then", made, asking, Oak::waiting);
        unchanged(call + ": the tape then", made, asking, Oak::tapeTold);
    }

    /** Refused by an act that reads the tape: all but the tape stays as it is. */
    static void refusedButTape(String call, Consumer<OakDeeds> made, ToIntFunction<OakDeeds> asking, int want) {
        refusedAlone(call, made, asking, want);
        unchanged(call + ": what waits then", made, asking, Oak::waiting);
    }

    /** Refused by an act that reads the numbers that wait: all but these stays as it is. */
    static void refusedButWaiting(String call, Consumer<OakDeeds> made, ToIntFunction<OakDeeds> asking, int want) {
        refusedAlone(call, made, asking, want);
        unchanged(call + ": the tape then", made, asking, Oak::tapeTold);
    }

    /** Answered in the world, which stays as it is. */
    static void changesNothing(String call, ToIntFunction<OakDeeds> asking, int want) {
        refusedAfter(call, x -> { }, asking, want);
    }

    private static void refusedAlone(String call, Consumer<OakDeeds> made, ToIntFunction<OakDeeds> asking, int want) {
        OakDeeds x = Oak.world();
        made.accept(x);
        due(call, asking.applyAsInt(x), want);
        unchanged(call + ": the land then", made, asking, Oak::land);
        unchanged(call + ": the image then", made, asking, Oak::image);
        unchanged(call + ": slots and sheets then", made, asking, Oak::slotsAndSheets);
    }

    /** Read in two worlds, one without the call and one with it. */
    private static void unchanged(String what, Consumer<OakDeeds> made, ToIntFunction<OakDeeds> asking,
            Function<OakDeeds, List<Integer>> read) {
        OakDeeds without = Oak.world();
        made.accept(without);
        OakDeeds with = Oak.world();
        made.accept(with);
        asking.applyAsInt(with);
        same(what, read.apply(with), read.apply(without));
    }
}
