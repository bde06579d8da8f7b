import java.lang.reflect.InvocationTargetException;
import java.lang.reflect.Method;
import java.lang.reflect.Modifier;
import java.util.Arrays;
import java.util.Comparator;
import java.util.function.BooleanSupplier;
import java.util.function.IntSupplier;

/**
 * What the tests share. A test class extends this one; each of its static methods without
 * parameters is a test, and stands for one sentence of the document, which its comment quotes.
 */
abstract class Check {
    /**
     * Both sides of every edge that the document names, the ends of int, and numbers that turn into
     * small ones when they are shifted, multiplied or cut to fewer bits.
     */
    static final int[] ODD_NUMBERS = {
        Integer.MIN_VALUE, Integer.MIN_VALUE + 1, -(1 << 30), -65536, -256, -64, -32, -9, -8, -7, -6, -5, -4,
        -2, -1, 0, 1, 2, 3, 4, 5, 6, 7, 8, 9, 11, 12, 13, 15, 16, 17, 31, 32, 33, 64, 128, 255, 256, 257, 512,
        65535, 65536, 1 << 28, 1 << 29, 715827883, 1 << 30, Integer.MAX_VALUE - 1, Integer.MAX_VALUE
    };

    static final int OPEN_MARK = 64;

    private static final int MOST_LINES = 40;

    private static String test = "";
    private static long made = 0;
    private static long wrong = 0;

    /** Runs every test of a class; the exit code is 1 if an answer was wrong or a call threw. */
    static void run(Class<? extends Check> tests) {
        Method[] methods = tests.getDeclaredMethods();
        Arrays.sort(methods, Comparator.comparing(Method::getName));
        int count = 0;
        for (Method method : methods) {
            boolean isTest = Modifier.isStatic(method.getModifiers()) && !method.isSynthetic()
                    && method.getParameterCount() == 0 && method.getReturnType() == void.class;
            if (isTest) {
                runOne(method);
                count++;
            }
        }
        System.out.println("  " + count + " tests, " + made + " answers, " + wrong + " not as due");
        if (wrong != 0 || count == 0) {
            System.exit(1);
        }
    }

    private static void runOne(Method method) {
        test = method.getName();
        long before = made;
        try {
            method.invoke(null);
        } catch (InvocationTargetException thrown) {
            tellWrong("threw " + thrown.getCause());
        } catch (IllegalAccessException hidden) {
            tellWrong("can't be run: " + hidden);
        }
        if (made == before) {
            tellWrong("compared no answer");
        }
    }

    private static void tellWrong(String what) {
        wrong++;
        if (wrong <= MOST_LINES) {
            System.out.println("  " + test + ": " + what);
        }
    }

    static void due(String call, long got, long want) {
        made++;
        if (got != want) {
            tellWrong(call + " answered " + got + ", due is " + want);
        }
    }

    static void due(String call, boolean got, boolean want) {
        due(call, got ? 1L : 0L, want ? 1L : 0L);
    }

    static void same(String what, int[] before, int[] after) {
        due(what + " changed nothing", Arrays.equals(before, after), true);
    }

    /** A call that must answer false and change nothing. */
    static void refused(DcgEngine x, String call, BooleanSupplier made) {
        int[] before = everything(x);
        due(call, made.getAsBoolean(), false);
        same(call, before, everything(x));
    }

    /** A call that must give this answer and change nothing. */
    static void answers(DcgEngine x, String call, IntSupplier made, int want) {
        int[] before = everything(x);
        due(call, made.getAsInt(), want);
        same(call, before, everything(x));
    }

    static boolean isIn(int number, int least, int greatest) {
        return least <= number && number <= greatest;
    }

    static int ruleCount(DcgEngine x) {
        int count = 0;
        while (count <= DcgEngine.MAX_RULES && x.ruleHead(count) != -1) {
            count++;
        }
        return count;
    }

    static int bodyLength(DcgEngine x, int r) {
        int count = 0;
        while (count <= DcgEngine.MAX_BODY && x.item(r, count) != -1) {
            count++;
        }
        return count;
    }

    /** Refused for a nonterminal that is in range exactly when COMPILED is false. */
    static boolean isCompiled(DcgEngine x) {
        return x.answerMask(0) != DcgEngine.REFUSED;
    }

    /** The nonterminals on a left cycle, bit m for nonterminal m. */
    static int leftCycles(DcgEngine x) {
        int set = 0;
        for (int nt = 0; nt < DcgEngine.NONTERMINALS; nt++) {
            set |= x.onLeftCycle(nt) ? 1 << nt : 0;
        }
        return set;
    }

    /** The rules and their items. */
    static int[] rules(DcgEngine x) {
        int[] told = new int[200];
        int n = 0;
        for (int r = -1; r <= DcgEngine.MAX_RULES; r++) {
            told[n++] = x.ruleHead(r);
            for (int k = -1; k <= DcgEngine.MAX_BODY; k++) {
                told[n++] = x.item(r, k);
            }
        }
        return Arrays.copyOf(told, n);
    }

    /** Where in that list the head of rule r stands. */
    static int headPlace(int r) {
        return (r + 1) * (DcgEngine.MAX_BODY + 3);
    }

    static int[] tokens(DcgEngine x) {
        int[] told = new int[DcgEngine.MAX_TOKENS + 3];
        told[0] = x.tokenCount();
        for (int i = -1; i <= DcgEngine.MAX_TOKENS; i++) {
            told[i + 2] = x.token(i);
        }
        return told;
    }

    /** The derivations for the current token string: all of them by endMask, some by the other queries. */
    static int[] derivations(DcgEngine x) {
        int[] told = new int[1000];
        int n = 0;
        for (int nt = 0; nt < DcgEngine.NONTERMINALS; nt++) {
            told[n++] = x.answerMask(nt);
            for (int from = 0; from <= x.tokenCount(); from++) {
                for (int v = 0; v < DcgEngine.VALUES; v++) {
                    told[n++] = x.endMask(nt, v, from);
                }
                for (int to = from; to <= x.tokenCount(); to++) {
                    told[n++] = x.prove(nt, (nt + to) % 4, from, to);
                    told[n++] = x.firstRule(nt, (nt + to) % 4, from, to);
                }
            }
        }
        return Arrays.copyOf(told, n);
    }

    /** All that the queries can tell of an object. */
    static int[] everything(DcgEngine x) {
        int[] rules = rules(x);
        int[] tokens = tokens(x);
        int[] derivations = derivations(x);
        int[] all = Arrays.copyOf(rules, rules.length + tokens.length + derivations.length + 1);
        System.arraycopy(tokens, 0, all, rules.length, tokens.length);
        System.arraycopy(derivations, 0, all, rules.length + tokens.length, derivations.length);
        all[all.length - 1] = leftCycles(x);
        return all;
    }
}
