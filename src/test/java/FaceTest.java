import java.lang.reflect.Constructor;
import java.lang.reflect.Field;
import java.lang.reflect.Method;
import java.lang.reflect.Modifier;
import java.util.Set;
import java.util.TreeSet;

/** "The public face": the class shows the document's members, and no other. */
public final class FaceTest extends Check {
    private static final String[] CONSTANTS = {
        "NONTERMINALS=6", "VALUES=4", "TOKENS=16", "MAX_RULES=12", "MAX_TOKENS=8", "MAX_BODY=6",
        "ARG_X0=4", "ARG_X1=5", "ITEM_TERMINAL=0", "ITEM_NONTERMINAL=1", "ITEM_BAR=2",
        "COMPILE_OK=0", "COMPILE_RULE_OPEN=1", "COMPILE_NO_RULES=2", "COMPILE_LEFT_RECURSIVE=3",
        "YES=1", "NO=0", "NO_RULE=-1", "REFUSED=-2"
    };
    private static final String[] METHODS = {
        "boolean beginRule(int,int)", "boolean addItem(int,int,int)", "boolean endRule()",
        "boolean removeLastRule()", "int compile()", "boolean addToken(int)", "void clearTokens()",
        "int prove(int,int,int,int)", "int answerMask(int)", "int endMask(int,int,int)",
        "int firstRule(int,int,int,int)", "boolean onLeftCycle(int)", "int ruleHead(int)",
        "int item(int,int)", "int tokenCount()", "int token(int)"
    };

    private static String parameters(Class<?>[] types) {
        StringBuilder list = new StringBuilder("(");
        for (Class<?> type : types) {
            list.append(list.length() > 1 ? "," : "").append(type.getName());
        }
        return list.append(")").toString();
    }

    private static Set<String> shownFields() throws IllegalAccessException {
        Set<String> shown = new TreeSet<>();
        for (Field field : DcgEngine.class.getDeclaredFields()) {
            int marks = field.getModifiers();
            if (!Modifier.isPrivate(marks)) {
                boolean constant = Modifier.isPublic(marks) && Modifier.isStatic(marks)
                        && Modifier.isFinal(marks) && field.getType() == int.class;
                shown.add(constant ? field.getName() + "=" + field.getInt(null) : "not due: " + field);
            }
        }
        return shown;
    }

    private static Set<String> shownMethods() {
        Set<String> shown = new TreeSet<>();
        for (Method method : DcgEngine.class.getDeclaredMethods()) {
            int marks = method.getModifiers();
            if (!Modifier.isPrivate(marks)) {
                boolean plain = Modifier.isPublic(marks) && !Modifier.isStatic(marks);
                String line = method.getReturnType().getName() + " " + method.getName()
                        + parameters(method.getParameterTypes());
                shown.add(plain ? line : "not due: " + method);
            }
        }
        return shown;
    }

    private static void sameSets(String what, Set<String> got, String[] want) {
        Set<String> due = new TreeSet<>(Set.of(want));
        if (!got.equals(due)) {
            System.out.println("  shown: " + got);
            System.out.println("  due:   " + due);
        }
        due(what, got.equals(due), true);
    }

    static void publicAndFinal() {
        int marks = DcgEngine.class.getModifiers();
        due("public class", Modifier.isPublic(marks), true);
        due("final class", Modifier.isFinal(marks), true);
        due("nested classes", DcgEngine.class.getDeclaredClasses().length, 0);
    }

    static void constants() throws IllegalAccessException {
        sameSets("constants", shownFields(), CONSTANTS);
    }

    static void methods() {
        sameSets("methods", shownMethods(), METHODS);
    }

    static void constructors() {
        Set<String> shown = new TreeSet<>();
        for (Constructor<?> made : DcgEngine.class.getDeclaredConstructors()) {
            shown.add(Modifier.toString(made.getModifiers()) + parameters(made.getParameterTypes()));
        }
        sameSets("constructors", shown, new String[] {"public(int,int)"});
    }

    public static void main(String[] args) {
        run(FaceTest.class);
    }
}
