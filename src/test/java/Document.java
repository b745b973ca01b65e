import java.io.IOException;
import java.io.UncheckedIOException;
import java.nio.file.Files;
import java.nio.file.Path;

/** The document's own words, so that a test can say by which of them an answer is due. */
final class Document {
    static final int TERMS = 0, PROMISES = 51;
    private static final Path FILE = Path.of("../shared/DOC.md");
    private static final String TEXT = read();

    private Document() {
    }

    private static String read() {
        try {
            return Files.exists(FILE) ? Files.readString(FILE).replaceAll("\\s+", " ") : "";
        } catch (IOException unreadable) {
            throw new UncheckedIOException(unreadable);
        }
    }

    /** A checkout without the shared folder has no words to look up; its answers are tested all the same. */
    static boolean isHere() {
        return !TEXT.isEmpty();
    }

    /** What a promise says; TERMS: all that stands ahead of the promises. */
    static String promise(int n) {
        int from = n == TERMS ? 0 : TEXT.indexOf("## Promise " + n + ":");
        int to = n == PROMISES ? TEXT.indexOf("## Not promised") : TEXT.indexOf("## Promise " + (n + 1) + ":");
        return from < 0 || to < from ? "" : TEXT.substring(from, to).trim();
    }
}
