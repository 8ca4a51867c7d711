import java.io.IOException;
import java.nio.file.Files;
import java.nio.file.Path;
import java.util.ArrayList;
import java.util.List;

/** The document's sentences that promise something, each behind its section: "Terms 3: ..", "Promise 7: ..". */
final class Doc {
    private Doc() {
    }

    static List<String> sentences(Path file) throws IOException {
        List<String> sentences = new ArrayList<>();
        String section = "";
        for (String line : Files.readAllLines(file)) {
            String words = line.strip();
            if (words.startsWith("## ")) {
                section = words.substring(3).replaceAll(":.*", "");
                continue;
            }
            if (words.startsWith("======== ")) {
                section = "Terms " + words.charAt(9);
                words = words.substring(11);
            }
            if (promises(section, words)) {
                for (String sentence : split(words)) {
                    sentences.add(section + ": " + sentence);
                }
            }
        }
        return sentences;
    }

    /** The face has a test of its own; what the class is about and how it is headed promises nothing. */
    private static boolean promises(String section, String words) {
        boolean right = section.startsWith("Terms") || section.startsWith("Promise") || section.equals("What it is");
        return right && !words.isEmpty() && !words.startsWith("```") && !words.startsWith("From an oak")
                && !words.startsWith("Ahead of the calls");
    }

    /** A stop ends a sentence, but those of "0 .. 9" do not. */
    private static String[] split(String words) {
        return words.split("(?<=[^ .]\\.) (?=\\S)");
    }
}
