/** All promises: long runs of mixed calls on the program and on the model must answer alike. */
public final class ModelTest extends Check {
    private static final int WILD_RUNS = 400;
    private static final int WILD_CALLS = 120;
    private static final int GRAMMARS = 3000;

    // A fixed sequence, so that every run of the test makes the same calls.
    private static long seed = 20261115L;

    private static int pick(int count) {
        seed = seed * 6364136223846793005L + 1442695040888963407L;
        return (int) ((seed >>> 33) % count);
    }

    /** Mostly a number in 0..count-1, at times one just outside or far off. */
    private static int loose(int count) {
        switch (pick(24)) {
            case 0:
                return -1;
            case 1:
                return count;
            case 2:
                return Check.ODD_NUMBERS[pick(Check.ODD_NUMBERS.length)];
            default:
                return pick(count);
        }
    }

    private static void wildCall(DcgEngine x, Model m, String run) {
        int a = 0;
        int b = 0;
        int c = 0;
        switch (pick(16)) {
            case 0:
            case 1:
            case 2:
                a = loose(6);
                b = loose(6);
                due(run + "beginRule(" + a + ", " + b + ")", x.beginRule(a, b), m.beginRule(a, b));
                break;
            case 3:
            case 4:
            case 5:
            case 6:
                a = loose(3);
                b = a == 0 ? loose(pick(4) == 0 ? 16 : 3) : loose(6);
                c = loose(6);
                due(run + "addItem(" + a + ", " + b + ", " + c + ")", x.addItem(a, b, c), m.addItem(a, b, c));
                break;
            case 7:
            case 8:
                due(run + "endRule()", x.endRule(), m.endRule());
                break;
            case 9:
                due(run + "removeLastRule()", x.removeLastRule(), m.removeLastRule());
                break;
            case 10:
            case 11:
                due(run + "compile()", x.compile(), m.compile());
                break;
            case 12:
            case 13:
            case 14:
                a = loose(pick(4) == 0 ? 16 : 3);
                due(run + "addToken(" + a + ")", x.addToken(a), m.addToken(a));
                break;
            default:
                if (pick(4) == 0) {
                    x.clearTokens();
                    m.clearTokens();
                }
                break;
        }
    }

    private static void sameReading(DcgEngine x, Model m, String run) {
        for (int r = -1; r <= 12; r++) {
            due(run + "ruleHead(" + r + ")", x.ruleHead(r), m.ruleHead(r));
            for (int k = -1; k <= 6; k++) {
                due(run + "item(" + r + ", " + k + ")", x.item(r, k), m.item(r, k));
            }
        }
        due(run + "tokenCount()", x.tokenCount(), m.tokenCount());
        for (int i = -1; i <= 8; i++) {
            due(run + "token(" + i + ")", x.token(i), m.token(i));
        }
        for (int nt = -1; nt <= 6; nt++) {
            due(run + "onLeftCycle(" + nt + ")", x.onLeftCycle(nt), m.onLeftCycle(nt));
        }
    }

    private static void sameDerivations(DcgEngine x, Model m, String run) {
        int n = m.tokenCount();
        for (int nt = -1; nt <= 6; nt++) {
            due(run + "answerMask(" + nt + ")", x.answerMask(nt), m.answerMask(nt));
            for (int v = -1; v <= 4; v++) {
                for (int from = -1; from <= n + 1; from++) {
                    String start = "(" + nt + ", " + v + ", " + from;
                    due(run + "endMask" + start, x.endMask(nt, v, from), m.endMask(nt, v, from));
                    for (int to = -1; to <= n + 1; to++) {
                        String span = start + ", " + to + ")";
                        due(run + "prove" + span, x.prove(nt, v, from, to), m.prove(nt, v, from, to));
                        due(run + "firstRule" + span, x.firstRule(nt, v, from, to), m.firstRule(nt, v, from, to));
                    }
                }
            }
        }
    }

    private static void wildRun(int number) {
        String run = "wild run " + number + ": ";
        int ruleCap = loose(13);
        int tokenCap = loose(9);
        DcgEngine x = new DcgEngine(ruleCap, tokenCap);
        Model m = new Model(ruleCap, tokenCap);
        for (int call = 0; call < WILD_CALLS; call++) {
            wildCall(x, m, run);
            sameReading(x, m, run);
            if (call % 20 == 19) {
                sameDerivations(x, m, run);
            }
        }
    }

    /** Mostly leads to higher nonterminals until a token stands before, so that many compile. */
    private static void rule(DcgEngine x, Model m) {
        int head = pick(5);
        int arg = pick(6);
        x.beginRule(head, arg);
        m.beginRule(head, arg);
        boolean guarded = false;
        int length = pick(7);
        for (int k = 0; k < length; k++) {
            int kind = pick(3) == 0 ? 2 : pick(2);
            int a = kind == 0 ? pick(2) : guarded || pick(20) == 0 ? pick(6) : head + 1 + pick(5 - head);
            int b = pick(6);
            guarded = kind == 0 || kind == 1 && guarded;
            x.addItem(kind, a, b);
            m.addItem(kind, a, b);
        }
        x.endRule();
        m.endRule();
    }

    private static boolean grammarRun(int number) {
        String run = "grammar " + number + ": ";
        DcgEngine x = new DcgEngine(12, 8);
        Model m = new Model(12, 8);
        int rules = 4 + pick(9);
        for (int r = 0; r < rules; r++) {
            rule(x, m);
        }
        int answer = x.compile();
        due(run + "compile()", answer, m.compile());
        for (int string = 0; string < 2; string++) {
            int tokens = pick(9);
            for (int i = 0; i < tokens; i++) {
                int tok = pick(2);
                due(run + "addToken(" + tok + ")", x.addToken(tok), m.addToken(tok));
            }
            sameDerivations(x, m, run);
            if (pick(2) == 0) {
                x.clearTokens();
                m.clearTokens();
            }
        }
        sameReading(x, m, run);
        return answer == DcgEngine.COMPILE_OK;
    }

    static void wildRuns() {
        for (int run = 0; run < WILD_RUNS; run++) {
            wildRun(run);
        }
    }

    static void grammars() {
        int compiled = 0;
        for (int run = 0; run < GRAMMARS; run++) {
            compiled += grammarRun(run) ? 1 : 0;
        }
        // Else the runs would show little of the derivations.
        due("a third of the grammars compile", compiled * 3 >= GRAMMARS, true);
        due("some grammars do not compile", compiled < GRAMMARS, true);
        System.out.println("  " + compiled + " of " + GRAMMARS + " grammars compiled");
    }

    public static void main(String[] args) {
        run(ModelTest.class);
    }
}
