import java.io.IOException;
import java.nio.file.Files;
import java.nio.file.Path;
import java.util.regex.Matcher;
import java.util.regex.Pattern;

/** The rules of LANGUAGE.md that the program's text shows without being understood. */
public final class LanguageTest {
    private static final String[] FORBIDDEN = {
        "import", "package", "float", "double", "String", "Math", "Integer", "System", "Arrays", "Object",
        "null", "throw", "throws", "try", "catch", "finally", "synchronized", "assert", "instanceof",
        "interface", "enum", "record", "extends", "implements", "protected", "getClass", "clone"
    };

    private static int count(String text, String pattern) {
        Matcher found = Pattern.compile(pattern, Pattern.MULTILINE).matcher(text);
        int n = 0;
        while (found.find()) {
            n++;
        }
        return n;
    }

    public static void main(String[] args) throws IOException {
        Check check = new Check();
        String text = Files.readString(Path.of("src/main/java/DcgEngine.java"));
        String code = text.replaceAll("(?s)/\\*.*?\\*/", "").replaceAll("//[^\n]*", "");
        for (String word : FORBIDDEN) {
            check.due("the word " + word, count(code, "\\b" + word + "\\b"), 0);
        }
        check.due("lambda or method reference", count(code, "->|::"), 0);
        check.due("arrays of arrays", count(code, "\\]\\s*\\["), 0);
        check.due("quotes", count(code, "[\"']"), 0);
        check.due("classes", count(code, "\\bclass\\b"), 1);
        int fields = count(code, "^    private final int\\[\\] \\w+ = new int\\[[A-Z_]+\\];$");
        check.due("new stands in fields alone", count(code, "\\bnew\\b"), fields);
        check.due("static fields are constants",
                count(code, "\\bstatic\\b(?! final int [A-Z0-9_]+ = )(?! (int|boolean) \\w+\\()"), 0);
        check.finish();
    }
}
