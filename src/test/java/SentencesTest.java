import java.io.IOException;
import java.nio.file.DirectoryStream;
import java.nio.file.Files;
import java.nio.file.Path;
import java.util.Arrays;
import java.util.regex.Matcher;
import java.util.regex.Pattern;

/** Every word of the document's terms and promises is of a sentence that some test names as what it tests. */
public final class SentencesTest {
    private static final Check CHECK = new Check("SentencesTest");
    private static final Path TESTS = Path.of("src/test/java");
    private static final String WORDS = "\"((?:[^\"\\\\]|\\\\.)*)\"";
    private static final Pattern QUOTE = Pattern.compile(
        "CHECK\\.by\\((\\d+),\\s*(" + WORDS + "(?:\\s*\\+\\s*" + WORDS + ")*)\\)");

    private static final String[] TEXTS = new String[Document.PROMISES + 1];
    private static final boolean[][] NAMED = new boolean[Document.PROMISES + 1][];

    public static void main(String[] args) throws IOException {
        if (!Document.isHere()) {
            System.out.println("SentencesTest: no document here to look sentences up in");
            return;
        }
        for (int n = 0; n <= Document.PROMISES; n++) {
            TEXTS[n] = sayings(n);
            NAMED[n] = new boolean[TEXTS[n].length()];
        }
        try (DirectoryStream<Path> files = Files.newDirectoryStream(TESTS, "*Test.java")) {
            for (Path file : files) {
                readQuotes(Files.readString(file));
            }
        }
        for (int n = 0; n <= Document.PROMISES; n++) {
            dueNamed(n);
        }
        CHECK.end();
    }

    /** Without headings, the face, and what only tells the order of the calls. */
    private static String sayings(int n) {
        String all = Document.promise(n);
        int from = n == Document.TERMS ? all.indexOf("ANSWERS.") : all.indexOf("`: ");
        int to = n == Document.TERMS ? all.indexOf("Ahead of the calls `row`") : all.length();
        CHECK.due("a text of " + n, from < 0 || to < from ? 0 : 1, 1);
        return from < 0 || to < from ? "" : all.substring(from, to);
    }

    private static void readQuotes(String source) {
        Matcher quote = QUOTE.matcher(source);
        while (quote.find()) {
            int n = Integer.parseInt(quote.group(1));
            StringBuilder said = new StringBuilder();
            Matcher part = Pattern.compile(WORDS).matcher(quote.group(2));
            while (part.find()) {
                said.append(part.group(1));
            }
            int at = TEXTS[n].indexOf(said.toString());
            if (at >= 0) {
                Arrays.fill(NAMED[n], at, at + said.length(), true);
            }
        }
    }

    private static void dueNamed(int n) {
        StringBuilder left = new StringBuilder();
        for (int i = 0; i < TEXTS[n].length(); i++) {
            left.append(NAMED[n][i] ? '_' : TEXTS[n].charAt(i));
        }
        String words = left.toString().replaceAll("_+", " _ ").replaceAll("ANSWERS|text|=+ \\d|[^\\w]", " ")
            .replace('_', ' ').trim();
        CHECK.due((n == Document.TERMS ? "terms" : "promise " + n) + ", no test names: " + words, words.length(), 0);
    }
}
