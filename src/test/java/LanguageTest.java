import java.io.IOException;
import java.nio.file.Files;
import java.nio.file.Path;
import java.util.regex.Matcher;
import java.util.regex.Pattern;

/** What LANGUAGE.md rules out and a look at the words of the source can find. */
public final class LanguageTest {
    private static final Check CHECK = new Check("LanguageTest");
    private static final int LONGEST_METHOD = 60, MOST_PARAMETERS = 7;

    private static final String[] RULED_OUT = {
        "\\bthrows?\\b", "\\btry\\b", "\\bcatch\\b", "\\bsynchronized\\b", "\\bassert\\b", "->", "::",
        "\\bimport\\b", "\\bpackage\\b", "\\bprotected\\b", "\\bnative\\b", "\\bvolatile\\b", "\\btransient\\b",
        "\\binstanceof\\b", "\\bvar\\b", "\\bObject\\b", "Exact\\b", "\\bSystem\\.(?!arraycopy)",
        "\\bhashCode\\b", "\\bequals\\b", "\\btoString\\b", "\\bThread\\b", "\\brandom\\b", "\\bstatic\\s*\\{",
        "\\[\\]\\[\\]\\[", "[^\\x00-\\x7f]",
    };

    public static void main(String[] args) throws IOException {
        String source = Files.readString(Path.of("src/main/java/PaperWalls.java"));
        String code = source.replaceAll("(?s)/\\*.*?\\*/", " ").replaceAll("//[^\n]*", " ");
        for (String words : RULED_OUT) {
            Matcher found = Pattern.compile(words).matcher(code);
            CHECK.due("'" + words + "' is there", found.find() ? 1 : 0, 0);
        }
        fieldsAreFinal(code);
        methodsAreShort(source);
        CHECK.end();
    }

    private static void fieldsAreFinal(String code) {
        Matcher field = Pattern.compile("\\bstatic\\s+(?!final\\b)[\\w\\[\\]]+\\s+\\w+\\s*[=;]").matcher(code);
        CHECK.due("a static field that is not final", field.find() ? 1 : 0, 0);
    }

    private static void methodsAreShort(String source) {
        Pattern head = Pattern.compile("^( *)[\\w ]*[\\w\\[\\]]+ \\w+\\(([^()]*)\\) \\{$");
        String[] lines = source.split("\n");
        for (int i = 0; i < lines.length; i++) {
            Matcher found = head.matcher(lines[i]);
            if (found.matches()) {
                int end = i;
                while (end < lines.length && !lines[end].equals(found.group(1) + "}")) {
                    end++;
                }
                CHECK.due("too long: " + lines[i], end - i > LONGEST_METHOD ? 1 : 0, 0);
                int parameters = found.group(2).split(",").length;
                CHECK.due("too many parameters: " + lines[i], parameters > MOST_PARAMETERS ? 1 : 0, 0);
            }
        }
    }
}
