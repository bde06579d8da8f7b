import java.io.IOException;
import java.lang.reflect.Method;
import java.lang.reflect.Modifier;
import java.nio.file.Files;
import java.nio.file.Path;
import java.util.Arrays;
import java.util.regex.Matcher;
import java.util.regex.Pattern;

/** README.md: its example is run call by call, and an answer that a comment tells must be given. */
public final class ReadmeTest extends Check {
    private static final Pattern MADE = Pattern.compile("DcgEngine x = new DcgEngine\\((.*?)\\);.*");
    private static final Pattern CALL = Pattern.compile("x\\.(\\w+)\\((.*?)\\);(.*)");
    private static final Pattern ANSWER = Pattern.compile("\\s*// (-?\\d+|[A-Z_]+|true|false)(:.*)?");

    private static String text() throws IOException {
        return Files.readString(Path.of("README.md"));
    }

    private static String[] example() throws IOException {
        String text = text();
        int start = text.indexOf("```java\n") + "```java\n".length();
        return text.substring(start, text.indexOf("```", start)).split("\n");
    }

    /** A number, or the name of one of the program's constants. */
    private static int number(String written) throws ReflectiveOperationException {
        String name = written.trim().replace("DcgEngine.", "");
        return name.matches("-?\\d+") ? Integer.parseInt(name) : DcgEngine.class.getField(name).getInt(null);
    }

    private static Object[] numbers(String list) throws ReflectiveOperationException {
        String[] written = list.isBlank() ? new String[0] : list.split(",");
        Object[] all = new Object[written.length];
        for (int i = 0; i < all.length; i++) {
            all[i] = number(written[i]);
        }
        return all;
    }

    private static Object call(DcgEngine x, String name, Object[] arguments) throws ReflectiveOperationException {
        Class<?>[] types = new Class<?>[arguments.length];
        Arrays.fill(types, int.class);
        return DcgEngine.class.getMethod(name, types).invoke(x, arguments);
    }

    private static void answered(String line, Object got, String comment) throws ReflectiveOperationException {
        Matcher told = ANSWER.matcher(comment);
        if (told.matches()) {
            boolean isBoolean = told.group(1).matches("true|false");
            Object want = isBoolean ? (Object) Boolean.valueOf(told.group(1)) : (Object) number(told.group(1));
            due(line + " [answered " + got + "]", want.equals(got), true);
        } else {
            // What the example feeds must be taken, else its answers would mean little.
            due(line + " [taken]", !Boolean.FALSE.equals(got), true);
        }
    }

    static void exampleAnswersAsItTells() throws IOException, ReflectiveOperationException {
        DcgEngine x = null;
        for (String line : example()) {
            Matcher made = MADE.matcher(line);
            Matcher call = CALL.matcher(line);
            if (made.matches()) {
                Object[] caps = numbers(made.group(1));
                x = new DcgEngine((int) caps[0], (int) caps[1]);
            } else if (call.matches()) {
                answered(line, call(x, call.group(1), numbers(call.group(2))), call.group(3));
            } else {
                due("a line of the example that is no call: " + line, line.isBlank(), true);
            }
        }
    }

    static void everyMethodIsTold() throws IOException {
        for (Method method : DcgEngine.class.getDeclaredMethods()) {
            if (Modifier.isPublic(method.getModifiers())) {
                due("a row for " + method.getName(), text().contains("\n| `" + method.getName() + "("), true);
            }
        }
    }

    public static void main(String[] args) {
        run(ReadmeTest.class);
    }
}
