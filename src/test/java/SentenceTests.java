import java.io.IOException;
import java.nio.file.Files;
import java.nio.file.Path;
import java.util.List;

/** A test for each sentence of the document, which stands in it as the document has it. */
public final class SentenceTests {
    private static final Path DOCUMENT = Path.of("../shared/DOC.md");

    private SentenceTests() {
    }

    public static void main(String[] args) throws IOException {
        Says.group(TermSentences::run);
        Says.group(DeedSentences::run);
        Says.group(GroundSentences::run);
        Says.group(TextSentences::run);
        Says.group(SheetSentences::run);
        List<String> faults = Says.faults();
        faults.forEach(System.out::println);
        int wrong = Says.broken().size() + faults.size() + notOfDocument(document());
        System.out.println(Says.sentences().size() + " sentences, " + Says.asked() + " answers asked, "
                + Says.broken().size() + " sentences do not hold");
        if (wrong != 0) {
            System.exit(1);
        }
    }

    private static List<String> document() throws IOException {
        if (Files.isReadable(DOCUMENT)) {
            return Doc.sentences(DOCUMENT);
        }
        System.out.println(DOCUMENT + " can't be read: the sentences are not held against it");
        return List.copyOf(Says.sentences());
    }

    /** Sentences of the document without a test, and tests of sentences that it does not have. */
    private static int notOfDocument(List<String> document) {
        int wrong = 0;
        for (String sentence : document) {
            if (!Says.sentences().contains(sentence)) {
                System.out.println("no test: " + sentence);
                wrong++;
            }
        }
        for (String sentence : Says.sentences()) {
            if (!document.contains(sentence)) {
                System.out.println("not in the document: " + sentence);
                wrong++;
            }
        }
        return wrong;
    }
}
