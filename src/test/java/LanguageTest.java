import java.io.IOException;
import java.io.UncheckedIOException;
import java.nio.file.Files;
import java.nio.file.Path;
import java.util.Map;
import java.util.Set;
import java.util.TreeMap;
import java.util.TreeSet;
import java.util.regex.Matcher;
import java.util.regex.Pattern;

/** The rules of LANGUAGE.md that the program's text shows without being understood. */
public final class LanguageTest extends Check {
    private static final String[] FORBIDDEN = {
        "import", "package", "float", "double", "String", "Math", "Integer", "System", "Arrays", "Object",
        "null", "throw", "throws", "try", "catch", "finally", "synchronized", "assert", "instanceof",
        "interface", "enum", "record", "extends", "implements", "protected", "getClass", "clone"
    };

    private static int count(String text, String pattern) {
        Matcher found = Pattern.compile(pattern, Pattern.MULTILINE).matcher(text);
        int n = 0;
        while (found.find()) {
            n++;
        }
        return n;
    }

    /** The program's text without its comments. */
    private static String code() {
        try {
            String text = Files.readString(Path.of("src/main/java/DcgEngine.java"));
            return text.replaceAll("(?s)/\\*.*?\\*/", "").replaceAll("//[^\n]*", "");
        } catch (IOException gone) {
            throw new UncheckedIOException(gone);
        }
    }

    /** Each method's text, from the line that names it to its closing brace, by its name. */
    private static Map<String, String> methods() {
        Map<String, String> all = new TreeMap<>();
        String method = "(?ms)^    (?:public|private)[^;={]*?\\b(\\w+)\\([^)]*\\) \\{$.*?^    \\}$";
        Matcher found = Pattern.compile(method).matcher(code());
        while (found.find()) {
            all.put(found.group(1), found.group());
        }
        return all;
    }

    private static Set<String> calls(String text, Set<String> names) {
        Set<String> called = new TreeSet<>();
        Matcher found = Pattern.compile("\\b(\\w+)\\(").matcher(text);
        while (found.find()) {
            called.add(found.group(1));
        }
        called.retainAll(names);
        return called;
    }

    private static String body(String method) {
        return method.substring(method.indexOf('{'));
    }

    /** How many methods deep the calls go; at one more than the most, looking ends. */
    private static int depth(Map<String, String> methods, String name, int most) {
        int below = 0;
        for (String called : calls(body(methods.get(name)), methods.keySet())) {
            below = Math.max(below, most == 0 ? 0 : depth(methods, called, most - 1));
        }
        return below + 1;
    }

    /** What stands between a parenthesis and the one that closes it. */
    private static String inside(String text, int open) {
        int level = 1;
        int at = open + 1;
        while (level > 0) {
            level += text.charAt(at) == '(' ? 1 : text.charAt(at) == ')' ? -1 : 0;
            at++;
        }
        return text.substring(open + 1, at - 1);
    }

    /** Rules 2, 3 and 6. */
    static void forbiddenWords() {
        for (String word : FORBIDDEN) {
            due("the word " + word, count(code(), "\\b" + word + "\\b"), 0);
        }
        due("lambda or method reference", count(code(), "->|::"), 0);
        due("arrays of arrays", count(code(), "\\]\\s*\\["), 0);
        due("quotes", count(code(), "[\"']"), 0);
    }

    /** Rule 1. */
    static void oneClass() {
        due("classes", count(code(), "\\bclass\\b"), 1);
    }

    /** Rule 1: "No private method bears the name of a public one.", nor any method that of another. */
    static void namesAreApart() {
        int declared = DcgEngine.class.getDeclaredMethods().length + DcgEngine.class.getDeclaredConstructors().length;
        due("names of methods", methods().size(), declared);
    }

    /** Rule 4. */
    static void arraysAreFields() {
        int fields = count(code(), "^    private final int\\[\\] \\w+ = new int\\[[A-Z_]+\\];$");
        due("new stands in fields alone", count(code(), "\\bnew\\b"), fields);
    }

    /** Rule 5. */
    static void staticFieldsAreConstants() {
        String other = "\\bstatic\\b(?! final int [A-Z0-9_]+ = )(?! (int|boolean) \\w+\\()";
        due("static fields that are not constants", count(code(), other), 0);
    }

    /** Rule 8: "Every loop has an end that can be seen from its own lines (a counter against a bound)." */
    static void loopsCount() {
        String counted = "\\bfor \\(int (\\w+) = [^;]+; \\1 (<|>=|<=) [^;]+; \\1(\\+\\+|--)\\)";
        due("loops that count", count(code(), counted), count(code(), "\\bfor\\b"));
        due("other loops", count(code(), "\\b(while|do)\\b"), 0);
    }

    /** Rule 8: "No recursion", which would have no depth, and rule 10: "calls go at most six deep". */
    static void callsAreSixDeep() {
        Map<String, String> methods = methods();
        for (String name : methods.keySet()) {
            due("depth of " + name + " is at most six", depth(methods, name, 6) <= 6, true);
        }
    }

    /** Rule 10: "no call stands inside the arguments of another call". */
    static void noCallInsideArguments() {
        Set<String> names = methods().keySet();
        Matcher found = Pattern.compile("\\b(\\w+)\\(").matcher(code());
        while (found.find()) {
            String arguments = inside(code(), found.end() - 1);
            due("calls inside " + found.group(1) + "(" + arguments + ")", calls(arguments, names).size(), 0);
        }
    }

    /** Rule 10: seven parameters, "some sixty lines", "some forty fields beside its constants". */
    static void smallMethodsAndFewFields() {
        for (Map.Entry<String, String> method : methods().entrySet()) {
            String text = method.getValue();
            due("parameters of " + method.getKey(), count(inside(text, text.indexOf('(')), "\\bint ") <= 7, true);
            due("lines of " + method.getKey(), text.lines().count() <= 60, true);
        }
        due("fields", count(code(), "^    private (final )?(int|boolean)(\\[\\])? \\w+( =.*)?;$") <= 40, true);
    }

    public static void main(String[] args) {
        run(LanguageTest.class);
    }
}
