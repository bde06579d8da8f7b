import java.util.ArrayList;
import java.util.Arrays;
import java.util.List;
import java.util.function.IntPredicate;
import java.util.function.ToIntFunction;

/**
 * "Every refused call changes nothing. The queries [..] never change the state." Each call is made
 * in each state; what the object tells then, and in a long run of calls after, must be what an
 * object tells that the call was never made on.
 */
public final class RefusedTest extends Check {
    /** A call, and which of its answers are given by a call that changes nothing. */
    private record Call(String name, ToIntFunction<DcgEngine> made, IntPredicate changesNothing) {
    }

    // ---- the states ----

    private static final int GRAMMARS = 15;
    private static final int STRINGS = 3;
    private static final int STATES = GRAMMARS * STRINGS;

    private static DcgEngine small(int ruleCap, int tokenCap, int rules) {
        DcgEngine x = new DcgEngine(ruleCap, tokenCap);
        for (int r = 0; r < rules; r++) {
            Build.openRule(x, r % 2 + "x: '1 " + r % 2 + "x |");
            x.endRule();
        }
        return x;
    }

    private static DcgEngine withOpenRule(DcgEngine x, String rule) {
        Build.openRule(x, rule);
        return x;
    }

    private static DcgEngine compiled(DcgEngine x) {
        x.compile();
        return x;
    }

    private static DcgEngine removed(DcgEngine x) {
        x.removeLastRule();
        return x;
    }

    private static DcgEngine grammar(int number) {
        switch (number) {
            case 0:
                return new DcgEngine(12, 8);
            case 1:
                return new DcgEngine(0, 0);
            case 2:
                return withOpenRule(small(12, 8, 0), "0x:");
            case 3:
                return withOpenRule(small(12, 8, 3), "0x: '1 1x");
            case 4:
                return withOpenRule(small(4, 8, 3), "1x: '1 1x | | '2 0y");
            case 5:
                return withOpenRule(small(12, 8, 11), "5y: '1 5y");
            case 6:
                return withOpenRule(compiled(Build.grammar("0x: 0x '1")), "1x: '1 '1 '1 '1 '1 '1");
            case 7:
                return small(12, 8, 3);
            case 8:
                return compiled(small(12, 8, 3));
            case 9:
                return compiled(small(12, 8, 12));
            case 10:
                return compiled(small(1, 1, 1));
            case 11:
                return compiled(Build.grammar("0x: 1x 0x", "1x:"));
            case 12:
                return removed(compiled(small(12, 8, 1)));
            case 13:
                return removed(withOpenRule(small(3, 4, 2), "3x: '1 2x |"));
            default:
                return compiled(Build.grammar("50: '2 41", "41:", "4y: '1 | '2 '2 '2", "02: '2"));
        }
    }

    /** Each grammar with an empty string, a short one and a full one. */
    private static DcgEngine state(int number) {
        DcgEngine x = grammar(number / STRINGS);
        int[] lengths = {0, 1, DcgEngine.MAX_TOKENS};
        for (int i = 0; i < lengths[number % STRINGS]; i++) {
            x.addToken(1 + i % 3 / 2);
        }
        return x;
    }

    // ---- the calls ----

    private static final int[] NONTERMINALS = {Integer.MIN_VALUE, -1, 0, 5, 6, Integer.MAX_VALUE};

    private static void building(List<Call> calls) {
        for (int nt : NONTERMINALS) {
            for (int arg : NONTERMINALS) {
                calls.add(new Call("beginRule(" + nt + ", " + arg + ")", x -> x.beginRule(nt, arg) ? 1 : 0, a -> a == 0));
            }
        }
        for (int kind : new int[] {-1, 0, 1, 2, 3}) {
            for (int a : new int[] {-1, 0, 6, 16}) {
                for (int b : new int[] {-1, 0, 6}) {
                    String name = "addItem(" + kind + ", " + a + ", " + b + ")";
                    calls.add(new Call(name, x -> x.addItem(kind, a, b) ? 1 : 0, answer -> answer == 0));
                }
            }
        }
        calls.add(new Call("endRule()", x -> x.endRule() ? 1 : 0, answer -> answer == 0));
        calls.add(new Call("removeLastRule()", x -> x.removeLastRule() ? 1 : 0, answer -> answer == 0));
        calls.add(new Call("compile()", DcgEngine::compile, answer -> answer != DcgEngine.COMPILE_OK));
        for (int tok : new int[] {Integer.MIN_VALUE, -1, 0, 1, 15, 16, Integer.MAX_VALUE}) {
            calls.add(new Call("addToken(" + tok + ")", x -> x.addToken(tok) ? 1 : 0, answer -> answer == 0));
        }
    }

    private static void query(List<Call> calls, String name, ToIntFunction<DcgEngine> made) {
        calls.add(new Call(name, made, answer -> true));
    }

    private static void derivationQueries(List<Call> calls) {
        for (int nt : new int[] {0, 6}) {
            query(calls, "answerMask(" + nt + ")", x -> x.answerMask(nt));
            for (int v : new int[] {0, 4}) {
                for (int from : new int[] {-1, 0, 9}) {
                    String start = "(" + nt + ", " + v + ", " + from;
                    query(calls, "endMask" + start + ")", x -> x.endMask(nt, v, from));
                    for (int to : new int[] {-1, 0, 1, 9}) {
                        String span = start + ", " + to + ")";
                        query(calls, "prove" + span, x -> x.prove(nt, v, from, to));
                        query(calls, "firstRule" + span, x -> x.firstRule(nt, v, from, to));
                    }
                }
            }
        }
    }

    private static void readingQueries(List<Call> calls) {
        for (int n : new int[] {Integer.MIN_VALUE, -1, 0, 2, 6, 11, 12, Integer.MAX_VALUE}) {
            query(calls, "onLeftCycle(" + n + ")", x -> x.onLeftCycle(n) ? 1 : 0);
            query(calls, "ruleHead(" + n + ")", x -> x.ruleHead(n));
            query(calls, "token(" + n + ")", x -> x.token(n));
            for (int k : new int[] {-1, 0, 5, 6}) {
                query(calls, "item(" + n + ", " + k + ")", x -> x.item(n, k));
            }
        }
        query(calls, "tokenCount()", DcgEngine::tokenCount);
    }

    // ---- what comes after ----

    private static void tell(List<int[]> told, int... answers) {
        told.add(answers);
    }

    private static void goOnBuilding(DcgEngine x, List<int[]> told) {
        for (int k = 0; k < 7; k++) {
            tell(told, x.addItem(k % 3, 1, 4) ? 1 : 0);
        }
        tell(told, x.endRule() ? 1 : 0, x.compile());
        tell(told, everything(x));
    }

    private static void goOnToTheCaps(DcgEngine x, List<int[]> told) {
        for (int n = 0; n < 9; n++) {
            tell(told, x.addToken(1 + n % 2) ? 1 : 0);
        }
        for (int r = 0; r < 13; r++) {
            tell(told, x.beginRule(2 + r % 4, 4) ? 1 : 0, x.addItem(0, r, 0) ? 1 : 0, x.endRule() ? 1 : 0);
        }
        tell(told, x.compile());
        tell(told, rules(x));
        tell(told, tokens(x));
        for (int nt = 0; nt < DcgEngine.NONTERMINALS; nt++) {
            tell(told, x.answerMask(nt), x.endMask(nt, 3, 0), x.firstRule(nt, 0, 1, 2));
        }
    }

    private static void goBack(DcgEngine x, List<int[]> told) {
        for (int r = 0; r < 3; r++) {
            tell(told, x.removeLastRule() ? 1 : 0, x.compile());
        }
        x.clearTokens();
        tell(told, x.addToken(1) ? 1 : 0);
        tell(told, everything(x));
    }

    /** All that the object tells, now and in a run of calls that changes it. */
    private static int[][] now(DcgEngine x) {
        List<int[]> told = new ArrayList<>();
        tell(told, everything(x));
        goOnBuilding(x, told);
        goOnToTheCaps(x, told);
        goBack(x, told);
        return told.toArray(new int[0][]);
    }

    private static int[] callsThatChangeNothing(List<Call> calls) {
        int[] count = new int[calls.size()];
        for (int number = 0; number < STATES; number++) {
            int[][] untouched = now(state(number));
            for (int c = 0; c < calls.size(); c++) {
                Call call = calls.get(c);
                DcgEngine x = state(number);
                int answer = call.made.applyAsInt(x);
                if (call.changesNothing.test(answer)) {
                    count[c]++;
                    String name = "state " + number + ": " + call.name + " changed nothing";
                    due(name, Arrays.deepEquals(untouched, now(x)), true);
                }
            }
        }
        return count;
    }

    /** "Every refused call changes nothing." */
    static void refusedCallsChangeNothing() {
        List<Call> calls = new ArrayList<>();
        building(calls);
        int[] refused = callsThatChangeNothing(calls);
        for (int c = 0; c < refused.length; c++) {
            due(calls.get(c).name + " was refused somewhere", refused[c] > 0, true);
        }
    }

    /** "The queries prove, answerMask, endMask, firstRule, onLeftCycle, ruleHead, item, tokenCount and token never change the state." */
    static void queriesChangeNothing() {
        List<Call> calls = new ArrayList<>();
        derivationQueries(calls);
        readingQueries(calls);
        for (int made : callsThatChangeNothing(calls)) {
            due("states in which it was made", made, STATES);
        }
    }

    /** "never change the state": so it does not matter in which order the queries are made. */
    static void queriesInAnyOrder() {
        List<Call> calls = new ArrayList<>();
        derivationQueries(calls);
        readingQueries(calls);
        for (int number = 0; number < STATES; number++) {
            DcgEngine forward = state(number);
            DcgEngine backward = state(number);
            int[] last = new int[calls.size()];
            for (int c = calls.size() - 1; c >= 0; c--) {
                last[c] = calls.get(c).made.applyAsInt(backward);
            }
            for (int c = 0; c < calls.size(); c++) {
                due("state " + number + ": " + calls.get(c).name, calls.get(c).made.applyAsInt(forward), last[c]);
            }
        }
    }

    public static void main(String[] args) {
        run(RefusedTest.class);
    }
}
