/** Promises 8 to 11: prove, answerMask, endMask and firstRule. */
public final class QueriesTest {
    private static final Check check = new Check();

    private static void refusedArguments() {
        DcgEngine x = Build.compiled("0x: 1x 'a 0x |", "1x:", "2x: 'a", "3x:", "4x:", "5x:");
        Build.tokens(x, "aaa");
        int[] before = Check.state(x);
        for (int nt : Check.ODD_NUMBERS) {
            boolean isNt = nt >= 0 && nt <= 5;
            check.due("answerMask(" + nt + ")", x.answerMask(nt) == DcgEngine.REFUSED, !isNt);
            for (int v : Check.ODD_NUMBERS) {
                boolean both = isNt && v >= 0 && v <= 3;
                for (int from : Check.ODD_NUMBERS) {
                    boolean start = both && from >= 0 && from <= 3;
                    String start3 = "(" + nt + ", " + v + ", " + from;
                    check.due("endMask" + start3, x.endMask(nt, v, from) == DcgEngine.REFUSED, !start);
                    for (int to : Check.ODD_NUMBERS) {
                        boolean span = start && from <= to && to <= 3;
                        boolean proved = x.prove(nt, v, from, to) == DcgEngine.REFUSED;
                        boolean ruled = x.firstRule(nt, v, from, to) == DcgEngine.REFUSED;
                        check.due("prove" + start3 + ", " + to, proved, !span);
                        check.due("firstRule" + start3 + ", " + to, ruled, !span);
                    }
                }
            }
        }
        check.same("a query", before, Check.state(x));
    }

    private static void refusedUncompiled() {
        DcgEngine fresh = new DcgEngine(12, 8);
        DcgEngine open = Build.compiled("0x:");
        Build.openRule(open, "1x: 'a");
        DcgEngine closed = Build.grammar("0x:");
        DcgEngine recursive = Build.grammar("0x:", "1x: 1x");
        recursive.compile();
        DcgEngine removed = Build.compiled("0x:", "1x:");
        removed.removeLastRule();
        for (DcgEngine x : new DcgEngine[] {fresh, open, closed, recursive, removed}) {
            check.due("prove", x.prove(0, 0, 0, 0), DcgEngine.REFUSED);
            check.due("answerMask", x.answerMask(0), DcgEngine.REFUSED);
            check.due("endMask", x.endMask(0, 0, 0), DcgEngine.REFUSED);
            check.due("firstRule", x.firstRule(0, 0, 0, 0), DcgEngine.REFUSED);
        }
    }

    /** Checks one start in full: the ends that are due for (nt, v, from), by every query. */
    private static void ends(DcgEngine x, int nt, int v, int from, int due) {
        String goal = "(" + nt + ", " + v + ", " + from + ")";
        check.due("endMask" + goal, x.endMask(nt, v, from), due);
        for (int to = from; to <= x.tokenCount(); to++) {
            boolean holds = (due >> to & 1) == 1;
            check.due("prove" + goal + " to " + to, x.prove(nt, v, from, to), holds ? 1 : 0);
            check.due("firstRule" + goal + " to " + to, x.firstRule(nt, v, from, to) >= 0, holds);
        }
        if (from == 0) {
            boolean whole = (due >> x.tokenCount() & 1) == 1;
            check.due("answerMask" + goal, x.answerMask(nt) >> v & 1, whole ? 1 : 0);
        }
    }

    private static void terminals() {
        DcgEngine x = Build.compiled("0x: 'a 'b", "12: 'a | 'a 'b 'a");
        Build.tokens(x, "abab");
        for (int v = 0; v < 4; v++) {
            ends(x, 0, v, 0, 1 << 2);
            ends(x, 0, v, 1, 0);
            ends(x, 0, v, 2, 1 << 4);
            ends(x, 0, v, 3, 0);
            ends(x, 0, v, 4, 0);
            ends(x, 1, v, 0, v == 2 ? 1 << 1 | 1 << 3 : 0);
            ends(x, 1, v, 2, v == 2 ? 1 << 3 : 0);
            ends(x, 5, v, 0, 0);
        }
        for (int tok = 0; tok < 16; tok++) {
            DcgEngine one = new DcgEngine(1, 1);
            one.beginRule(0, 0);
            one.addItem(0, tok, 0);
            one.endRule();
            one.compile();
            for (int other = 0; other < 16; other++) {
                one.clearTokens();
                one.addToken(other);
                check.due(tok + " against " + other, one.prove(0, 0, 0, 1), tok == other ? 1 : 0);
            }
        }
    }

    private static void alternatives() {
        DcgEngine x = Build.compiled("0x: 'a | 'b | 'c 'c", "1x: | 'a | 'a 'a", "2x: 1x 'a 'b |", "3x: 'a 'a |", "3x: 1x");
        Build.tokens(x, "aaab");
        ends(x, 0, 0, 0, 1 << 1);
        ends(x, 0, 0, 3, 1 << 4);
        ends(x, 1, 0, 0, 1 | 1 << 1 | 1 << 2);
        ends(x, 2, 0, 0, 1 | 1 << 4);
        ends(x, 2, 0, 1, 1 << 1 | 1 << 4);
        ends(x, 3, 0, 1, 1 << 1 | 1 << 2 | 1 << 3);
        Build.tokens(x, "cca");
        ends(x, 0, 3, 0, 1 << 2);
        ends(x, 0, 3, 1, 0);
        ends(x, 0, 3, 2, 1 << 3);
        // One token item goes on from every place that is reached.
        DcgEngine many = Build.compiled("0x: 1x 'a", "1x: 'a 1x |");
        Build.tokens(many, "aaaa");
        ends(many, 0, 1, 0, 1 << 1 | 1 << 2 | 1 << 3 | 1 << 4);
        ends(many, 0, 1, 2, 1 << 3 | 1 << 4);
    }

    private static void fullGrammar() {
        DcgEngine x = new DcgEngine(12, 8);
        for (int r = 0; r < 12; r++) {
            Build.openRule(x, r % 6 + "x: 'a 'a 'a 'a 'a " + (r == 11 ? "0x" : "'a"));
            x.endRule();
        }
        Build.tokens(x, "aaaaaaaa");
        check.due("full", x.compile(), DcgEngine.COMPILE_OK);
        for (int nt = 0; nt < 6; nt++) {
            ends(x, nt, 3, 0, 1 << 6);
            ends(x, nt, 3, 2, 1 << 8);
            ends(x, nt, 3, 3, 0);
            check.due("least of two", x.firstRule(nt, 3, 1, 7), nt);
        }
    }

    private static void emptySpans() {
        DcgEngine x = Build.compiled("01:", "1x: 0x", "2x: 'a |", "3x: 'a | 'b", "4x: | | 'a 'a");
        check.due("empty string", x.answerMask(0), 2);
        check.due("empty string", x.answerMask(1), 2);
        check.due("empty string", x.answerMask(2), 15);
        check.due("empty string", x.answerMask(3), 0);
        check.due("empty string", x.endMask(2, 3, 0), 1);
        Build.tokens(x, "aa");
        for (int p = 0; p <= 2; p++) {
            for (int v = 0; v < 4; v++) {
                ends(x, 0, v, p, v == 1 ? 1 << p : 0);
                ends(x, 1, v, p, v == 1 ? 1 << p : 0);
                ends(x, 2, v, p, p < 2 ? 3 << p : 4);
                ends(x, 3, v, p, p < 2 ? 2 << p : 0);
                ends(x, 4, v, p, p == 0 ? 5 : 1 << p);
            }
        }
    }

    private static void variables() {
        // A variable is one value in the whole alternative, and the two are free of each other.
        DcgEngine x = Build.compiled("0x: 2x 3x", "1x: 2x 3y", "2x: 'a | 5x", "30: 'b", "31: 'b 'b", "4y: 30 3y");
        Build.tokens(x, "abb");
        ends(x, 0, 0, 0, 1 << 2);
        ends(x, 0, 1, 0, 1 << 3);
        ends(x, 0, 2, 0, 0);
        for (int v = 0; v < 4; v++) {
            ends(x, 1, v, 0, 1 << 2 | 1 << 3);
        }
        ends(x, 4, 0, 1, 1 << 3);
        ends(x, 4, 1, 1, 0);
        Build.tokens(x, "bbb");
        ends(x, 4, 0, 0, 1 << 2);
        ends(x, 4, 1, 0, 1 << 3);
        // A variable has the values 0..3 only, and each of them.
        DcgEngine four = Build.compiled("0x: 'a 1x", "2y: 'a 1y", "00: 'b 4x", "20: 'b 4y", "1x: 'c", "50: 'd");
        Build.tokens(four, "ac");
        check.due("X0", four.answerMask(0), 15);
        check.due("X1", four.answerMask(2), 15);
        Build.tokens(four, "bd");
        check.due("X0 without a rule", four.answerMask(0), 0);
        check.due("X1 without a rule", four.answerMask(2), 0);
        for (int v = 0; v < 4; v++) {
            DcgEngine one = Build.compiled("00: 1x 'b", "20: 1y 'b", "1" + v + ": 'a");
            Build.tokens(one, "ab");
            check.due("X0 = " + v, one.answerMask(0), 1);
            check.due("X1 = " + v, one.answerMask(2), 1);
        }
        // A variable that stands in the head of a rule with an empty body takes every value.
        DcgEngine free = Build.compiled("0x:", "1y:", "23:");
        check.due("head X0", free.answerMask(0), 15);
        check.due("head X1", free.answerMask(1), 15);
        check.due("head 3", free.answerMask(2), 8);
        check.due("no rule", free.answerMask(3), 0);
    }

    private static void freshForEachAlternative() {
        DcgEngine x = Build.compiled("00: 1x 'c | 1x 'd", "11: 'a", "12: 'b");
        for (String word : new String[] {"ac", "ad", "bc", "bd"}) {
            Build.tokens(x, word);
            check.due(word, x.answerMask(0), 1);
        }
        DcgEngine both = Build.compiled("0x: 1x 1y 1x", "11: 'a", "12: 'b");
        for (String word : new String[] {"aaa", "aba", "bab", "bbb", "aab", "bba", "abb", "baa"}) {
            Build.tokens(both, word);
            int due = word.charAt(0) != word.charAt(2) ? 0 : word.charAt(0) == 'a' ? 2 : 4;
            check.due(word, both.answerMask(0), due);
        }
    }

    private static void deepRecursion() {
        DcgEngine x = Build.compiled("0x: 'a 0x 'b |", "1x: 'a 1x 1x |", "2x: 3x 2x |", "3x: 'a | 'b");
        for (int n = 0; n <= 4; n++) {
            Build.tokens(x, "aaaa".substring(0, n) + "bbbb".substring(0, n));
            check.due("a^n b^n", x.answerMask(0), 15);
            check.due("ends", x.endMask(0, 2, 0), n == 0 ? 1 : 1 | 1 << 2 * n);
            check.due("all ends", x.endMask(2, 2, 0), (2 << 2 * n) - 1);
        }
        Build.tokens(x, "aaaaaaaa");
        for (int from = 0; from <= 8; from++) {
            ends(x, 1, 3, from, 511 >> from << from);
            ends(x, 2, 0, from, 511 >> from << from);
            ends(x, 0, 0, from, 1 << from);
        }
        check.due("greatest endMask", x.endMask(2, 0, 0), 511);
    }

    private static void longChains() {
        // Each nonterminal leads to the next, with the rules in either order.
        String[] down = {"0x: 1x", "1x: 2x", "2x: 3x", "3x: 4x", "4x: 5x", "50: | 'a 01", "51: 'b 00"};
        String[] up = {"51: 'b 00", "50: | 'a 01", "4x: 5x", "3x: 4x", "2x: 3x", "1x: 2x", "0x: 1x"};
        for (String[] rules : new String[][] {down, up}) {
            DcgEngine x = Build.compiled(rules);
            Build.tokens(x, "abababab");
            ends(x, 0, 0, 0, 1 | 1 << 2 | 1 << 4 | 1 << 6 | 1 << 8);
            ends(x, 0, 1, 0, 0);
            ends(x, 0, 1, 1, 1 << 2 | 1 << 4 | 1 << 6 | 1 << 8);
            ends(x, 0, 1, 7, 1 << 8);
            ends(x, 0, 2, 0, 0);
        }
    }

    private static void leastRule() {
        DcgEngine x = Build.compiled("1x: 'a", "02: 'a", "0x: 1x", "03: 'a | 'b", "0y: 'b |", "0x: 'a 'b");
        Build.tokens(x, "ab");
        check.due("value 0", x.firstRule(0, 0, 0, 1), 2);
        check.due("value 1", x.firstRule(0, 1, 0, 1), 2);
        check.due("value 2", x.firstRule(0, 2, 0, 1), 1);
        check.due("value 3", x.firstRule(0, 3, 0, 1), 2);
        check.due("b, value 3", x.firstRule(0, 3, 1, 2), 3);
        check.due("b, value 2", x.firstRule(0, 2, 1, 2), 4);
        check.due("empty span", x.firstRule(0, 2, 1, 1), 4);
        check.due("empty span at the end", x.firstRule(0, 2, 2, 2), 4);
        check.due("both", x.firstRule(0, 2, 0, 2), 5);
        check.due("other nonterminal", x.firstRule(1, 2, 0, 1), 0);
        check.due("none", x.firstRule(1, 2, 1, 2), DcgEngine.NO_RULE);
        check.due("no rule at all", x.firstRule(4, 0, 0, 0), DcgEngine.NO_RULE);
        // The rule at the top counts, not a lower one that an inner nonterminal uses.
        DcgEngine inner = Build.compiled("10: 'a", "0x: 'b 'a", "0x: 10");
        Build.tokens(inner, "a");
        check.due("inner", inner.firstRule(0, 0, 0, 1), 2);
        // An inner nonterminal may use a rule that stands later.
        DcgEngine later = Build.compiled("00: 'b 11", "00: 'b 'a", "11: 'a");
        Build.tokens(later, "ba");
        check.due("later", later.firstRule(0, 0, 0, 2), 0);
    }

    public static void main(String[] args) {
        refusedArguments();
        refusedUncompiled();
        terminals();
        alternatives();
        fullGrammar();
        emptySpans();
        variables();
        freshForEachAlternative();
        deepRecursion();
        longChains();
        leastRule();
        check.finish();
    }
}
