import java.io.IOException;
import java.io.UncheckedIOException;
import java.nio.file.Files;
import java.nio.file.Path;
import java.util.LinkedHashSet;
import java.util.Set;

/**
 * The sentences of ../shared/DOC.md up to the last promise, each behind the name of its section:
 * "ROUNDS | The round ends when no player has a free worker." or "Promise 5: skip | Undoable.".
 * A line of a list is a sentence too. Signatures, marks of lists and quotes of code are left out, as
 * are the examples (ExamplesTest has them), the face (FormTest has it) and its headings.
 */
final class Document {
    private static final Path FILE = Path.of("../shared/DOC.md");
    private static final Set<String> SENTENCES = read();

    private Document() {
    }

    static Set<String> sentences() {
        return SENTENCES;
    }

    private static Set<String> read() {
        Set<String> found = new LinkedHashSet<>();
        String section = "";
        for (String block : text().split("\n\\s*\n|\n(?=- )")) {
            String words = block.replaceAll("\\s+", " ").trim();
            if (words.startsWith("#")) {
                section = words.replaceFirst("#+ ", "");
            } else if (words.matches("[A-Z][A-Z ]+")) {
                section = words;
            } else if (!words.matches("(Examples:|\\d\\.|Ahead of the calls|```java) .*")) {
                addSentences(found, section, words);
            }
        }
        return found;
    }

    private static void addSentences(Set<String> found, String section, String words) {
        String plain = words.replaceFirst("^- ", "").replaceFirst("^`\\w+ \\w+\\(.*?`: |^`VillageBoard\\(\\)`: ", "");
        for (String sentence : plain.replace("`", "").split("(?<=\\.) (?=[A-Z])")) {
            found.add(section + " | " + sentence);
        }
    }

    /** What is not promised stands behind the promises. */
    private static String text() {
        try {
            String whole = Files.readString(FILE);
            return whole.substring(whole.indexOf("## What it is"), whole.indexOf("## Not promised"));
        } catch (IOException unreadable) {
            throw new UncheckedIOException(unreadable);
        }
    }
}
