import java.io.IOException;
import java.nio.file.Files;
import java.nio.file.Path;
import java.util.regex.Pattern;

/** What of LANGUAGE.md can be seen in the text of the class. */
public final class LanguageTest {
    private static final String[] FORBIDDEN = {
        "\\bcatch\\b", "\\bfinally\\b", "\\bsynchronized\\b", "\\bassert\\b", "->", "::", "Exact\\(", "@\\w+",
        "\\bequals\\b", "\\bhashCode\\b", "\\btoString\\b", "^package\\b", "\\bprotected\\b", "\\bpublic static [^f]",
        "\\bstatic [a-z]+(\\[\\])? \\w+ =", "\" *\\+", "\\+ *\"", "\\bdouble\\b", "\\bfloat\\b", "\\bSystem\\b",
        "[^\\x00-\\x7F]"};

    private LanguageTest() {
    }

    public static void main(String[] args) throws IOException {
        String text = Files.readString(Path.of("src/main/java/BreakersYard.java"));
        String code = text.replaceAll("(?s)/\\*.*?\\*/", "").replaceAll("//.*", "").replaceAll("throw new .*", "");
        for (String forbidden : FORBIDDEN) {
            boolean has = Pattern.compile(forbidden, Pattern.MULTILINE).matcher(code).find();
            Check.due("text has " + forbidden, has, false);
        }
        for (String line : code.split("\n")) {
            if (line.startsWith("import ")) {
                Check.due(line, line.matches("import java\\.util\\.(Arrays|NoSuchElementException);"), true);
            }
        }
        methodsAreShort(code);
        Check.end();
    }

    private static void methodsAreShort(String code) {
        int start = 0;
        String[] lines = code.split("\n");
        for (int i = 0; i < lines.length; i++) {
            if (lines[i].matches(" {4,8}\\w.*\\) (throws .*)?\\{")) {
                start = i;
            }
            if (lines[i].matches(" {4,8}\\}")) {
                Check.due("a method of more than 60 lines: " + lines[start], i - start > 60 && start > 0
                        && lines[start].contains("("), false);
                start = 0;
            }
        }
    }
}
