import java.io.IOException;
import java.nio.charset.StandardCharsets;
import java.nio.file.Files;
import java.nio.file.Path;
import java.util.Set;
import java.util.TreeSet;

/** The sentences of ../shared/DOC.md that have a test of their own: each is quoted, and must stand there. */
final class Document {
    private static final String TEXT = read();
    private static final Set<Integer> TESTED = new TreeSet<>();

    private Document() {
    }

    private static String read() {
        try {
            String text = new String(Files.readAllBytes(Path.of("../shared/DOC.md")), StandardCharsets.US_ASCII);
            return text.replaceAll("\\s+", " ");
        } catch (IOException e) {
            throw new IllegalStateException("the document is not where it should be", e);
        }
    }

    /** What is asked from now on tests this sentence of the head or of the terms. */
    static void says(String sentence) {
        Check.context = "'" + sentence + "':";
        int promises = TEXT.indexOf("## Promise 1:");
        Check.same("stands in the terms", 1, TEXT.substring(0, promises).contains(sentence) ? 1 : 0);
    }

    /** What is asked from now on tests this sentence of a promise. */
    static void promises(int number, String sentence) {
        Check.context = "promise " + number + ", '" + sentence + "':";
        int start = TEXT.indexOf("## Promise " + number + ":");
        int end = start < 0 ? -1 : TEXT.indexOf(" ## ", start);
        Check.same("stands there", 1, end >= 0 && TEXT.substring(start, end).contains(sentence) ? 1 : 0);
        TESTED.add(number);
    }

    /** Whether each of these promises had a sentence. */
    static void covers(int first, int last) {
        Check.context = "";
        for (int number = first; number <= last; number++) {
            Check.same("promise " + number + " has a test", 1, TESTED.contains(number) ? 1 : 0);
        }
    }
}
