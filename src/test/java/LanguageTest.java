import java.io.IOException;
import java.io.UncheckedIOException;
import java.nio.file.Files;
import java.nio.file.Path;
import java.util.regex.Matcher;
import java.util.regex.Pattern;

/** The rules of LANGUAGE.md that the program's text shows without being understood. */
public final class LanguageTest extends Check {
    private static final String[] FORBIDDEN = {
        "import", "package", "float", "double", "String", "Math", "Integer", "System", "Arrays", "Object",
        "null", "throw", "throws", "try", "catch", "finally", "synchronized", "assert", "instanceof",
        "interface", "enum", "record", "extends", "implements", "protected", "getClass", "clone"
    };

    private static int count(String text, String pattern) {
        Matcher found = Pattern.compile(pattern, Pattern.MULTILINE).matcher(text);
        int n = 0;
        while (found.find()) {
            n++;
        }
        return n;
    }

    /** The program's text without its comments. */
    private static String code() {
        try {
            String text = Files.readString(Path.of("src/main/java/DcgEngine.java"));
            return text.replaceAll("(?s)/\\*.*?\\*/", "").replaceAll("//[^\n]*", "");
        } catch (IOException gone) {
            throw new UncheckedIOException(gone);
        }
    }

    /** Rules 2, 3 and 6. */
    static void forbiddenWords() {
        for (String word : FORBIDDEN) {
            due("the word " + word, count(code(), "\\b" + word + "\\b"), 0);
        }
        due("lambda or method reference", count(code(), "->|::"), 0);
        due("arrays of arrays", count(code(), "\\]\\s*\\["), 0);
        due("quotes", count(code(), "[\"']"), 0);
    }

    /** Rule 1. */
    static void oneClass() {
        due("classes", count(code(), "\\bclass\\b"), 1);
    }

    /** Rule 4. */
    static void arraysAreFields() {
        int fields = count(code(), "^    private final int\\[\\] \\w+ = new int\\[[A-Z_]+\\];$");
        due("new stands in fields alone", count(code(), "\\bnew\\b"), fields);
    }

    /** Rule 5. */
    static void staticFieldsAreConstants() {
        String other = "\\bstatic\\b(?! final int [A-Z0-9_]+ = )(?! (int|boolean) \\w+\\()";
        due("static fields that are not constants", count(code(), other), 0);
    }

    public static void main(String[] args) {
        run(LanguageTest.class);
    }
}
