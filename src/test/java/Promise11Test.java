/** Promise 11: firstRule. */
public final class Promise11Test extends Span {
    private static void refusedRule(DcgEngine x, int nt, int v, int from, int to) {
        String call = "firstRule(" + nt + ", " + v + ", " + from + ", " + to + ")";
        answers(x, call, () -> x.firstRule(nt, v, from, to), DcgEngine.REFUSED);
    }

    /** "firstRule(nt, v, from, to) is refused, answering REFUSED, under exactly the same conditions as prove.": COMPILED is false. */
    static void refusedWhenNotCompiled() {
        for (DcgEngine x : uncompiled()) {
            for (int nt = 0; nt <= 5; nt++) {
                refusedRule(x, nt, 0, 0, 0);
                refusedRule(x, nt, 3, 0, 2);
                refusedRule(x, nt, 3, 2, 2);
                refusedRule(x, nt, 4, 2, 1);
            }
        }
    }

    /** "under exactly the same conditions as prove": nt is not in 0..5. */
    static void refusedForWrongNonterminal() {
        DcgEngine x = wide("aab");
        for (int nt : ODD_NUMBERS) {
            for (int v = 0; v <= 3 && !isIn(nt, 0, 5); v++) {
                refusedRule(x, nt, v, 0, 0);
                refusedRule(x, nt, v, 3, 3);
            }
        }
    }

    /** "under exactly the same conditions as prove": v is not in 0..3. */
    static void refusedForWrongValue() {
        DcgEngine x = wide("aab");
        for (int v : ODD_NUMBERS) {
            for (int nt = 0; nt <= 5 && !isIn(v, 0, 3); nt++) {
                refusedRule(x, nt, v, 0, 0);
                refusedRule(x, nt, v, 3, 3);
            }
        }
    }

    /** "under exactly the same conditions as prove": from and to are no span of the string. */
    static void refusedForWrongSpan() {
        String all = "aabaabaa";
        for (int n = 0; n <= 8; n++) {
            DcgEngine x = wide(all.substring(0, n));
            refusedRule(x, 0, 0, 0, n + 1);
            refusedRule(x, 0, 0, n, n + 1);
            refusedRule(x, 0, 0, n + 1, n + 1);
            refusedRule(x, 1, 1, -1, n);
            refusedRule(x, 1, 1, -1, -1);
            refusedRule(x, 0, 0, n, n - 1);
            refusedRule(x, 0, 0, n + 1, n);
        }
    }

    /** "under exactly the same conditions as prove": and for no other arguments. */
    static void refusedForNothingElse() {
        DcgEngine x = wide("aab");
        int[] before = everything(x);
        for (int nt : ODD_NUMBERS) {
            for (int v : ODD_NUMBERS) {
                for (int from : ODD_NUMBERS) {
                    for (int to : ODD_NUMBERS) {
                        boolean refused = x.firstRule(nt, v, from, to) == DcgEngine.REFUSED;
                        if (refused == isSpan(x, nt, v, from, to)) {
                            due("firstRule(" + nt + ", " + v + ", " + from + ", " + to + ") refused", refused, !refused);
                        }
                    }
                }
            }
        }
        same("firstRule", before, everything(x));
    }

    /** "Otherwise the answer is the least rule index r such that D(nt, v, from, to) holds by the definition of D with this rule r as the rule used at the top." */
    static void leastIndex() {
        DcgEngine x = Build.compiled("1x: 'a", "02: 'a", "0x: 1x", "03: 'a | 'b", "0y: 'b |", "0x: 'a 'b");
        Build.tokens(x, "ab");
        due("value 0", x.firstRule(0, 0, 0, 1), 2);
        due("value 1", x.firstRule(0, 1, 0, 1), 2);
        due("value 2", x.firstRule(0, 2, 0, 1), 1);
        due("value 3", x.firstRule(0, 3, 0, 1), 2);
        due("b, value 3", x.firstRule(0, 3, 1, 2), 3);
        due("b, value 2", x.firstRule(0, 2, 1, 2), 4);
        due("empty span", x.firstRule(0, 2, 1, 1), 4);
        due("empty span at the end", x.firstRule(0, 2, 2, 2), 4);
        due("both tokens", x.firstRule(0, 2, 0, 2), 5);
        due("other nonterminal", x.firstRule(1, 2, 0, 1), 0);
    }

    /** "the least rule index r": from the first one to the last of twelve. */
    static void everyIndexIsMet() {
        for (int first = 0; first < 12; first++) {
            DcgEngine x = Build.grammar();
            for (int r = 0; r < 12; r++) {
                Build.openRule(x, r < first ? "3x: 'b" : "3x: 'a");
                x.endRule();
            }
            x.compile();
            x.addToken(10);
            due("firstRule", x.firstRule(3, 1, 0, 1), first);
        }
    }

    /** "with this rule r as the rule used at the top": not one that an inner nonterminal uses. */
    static void ruleAtTheTop() {
        DcgEngine x = Build.compiled("10: 'a", "0x: 'b 'a", "0x: 10");
        Build.tokens(x, "a");
        due("firstRule", x.firstRule(0, 0, 0, 1), 2);
    }

    /** "Any alternative and assignment of r may be used" */
    static void anyAlternativeAndAssignment() {
        DcgEngine x = Build.compiled("0x: 'b | 2y 'a | 'd", "0x: 23 'a", "23: 'a");
        Build.tokens(x, "aa");
        due("middle alternative, X1 = 3", x.firstRule(0, 1, 0, 2), 0);
        Build.tokens(x, "d");
        due("last alternative", x.firstRule(0, 1, 0, 1), 0);
        Build.tokens(x, "b");
        due("first alternative", x.firstRule(0, 1, 0, 1), 0);
    }

    /** "and any rules may derive the inner nonterminals" */
    static void innerRulesMayStandLater() {
        DcgEngine x = Build.compiled("00: 'b 11", "00: 'b 'a", "11: 'c", "11: 'a");
        Build.tokens(x, "ba");
        due("firstRule", x.firstRule(0, 0, 0, 2), 0);
    }

    /** "If there is no such r, the answer is NO_RULE." */
    static void noRule() {
        DcgEngine x = Build.compiled("0x: 'a", "12: 'a |");
        due("no rule of this nonterminal", x.firstRule(5, 0, 0, 0), DcgEngine.NO_RULE);
        due("empty string", x.firstRule(0, 0, 0, 0), DcgEngine.NO_RULE);
        due("another value", x.firstRule(1, 3, 0, 0), DcgEngine.NO_RULE);
        Build.tokens(x, "ab");
        due("another token", x.firstRule(0, 0, 1, 2), DcgEngine.NO_RULE);
        due("longer span", x.firstRule(0, 0, 0, 2), DcgEngine.NO_RULE);
        due("shorter span", x.firstRule(0, 0, 0, 0), DcgEngine.NO_RULE);
        due("the end", x.firstRule(0, 0, 2, 2), DcgEngine.NO_RULE);
    }

    /** "Consequently, when not refused, the answer is at least 0 exactly when prove gives YES for the same arguments." */
    static void agreesWithProve() {
        for (String string : new String[] {"", "a", "b", "ab", "aab", "abb", "aaaaaaaa", "aaaabbbb", "babababa"}) {
            DcgEngine x = wide(string);
            for (int nt = 0; nt <= 5; nt++) {
                for (int v = 0; v <= 3; v++) {
                    for (int from = 0; from <= string.length(); from++) {
                        for (int to = from; to <= string.length(); to++) {
                            boolean proved = x.prove(nt, v, from, to) == DcgEngine.YES;
                            due("firstRule >= 0", x.firstRule(nt, v, from, to) >= 0, proved);
                        }
                    }
                }
            }
        }
    }

    private static void headFits(DcgEngine x, int r, int nt, int v) {
        int head = x.ruleHead(r);
        due("rule " + r + " is closed", isIn(head, 0, 45), true);
        due("its head nonterminal", head / 8, nt);
        int code = head % 8;
        due("its code " + code + " fits " + v, code == v || code == 4 || code == 5, true);
    }

    /** "When it answers some r >= 0, rule r is closed, its head nonterminal is nt, and its head argument code is either the constant v or a variable (ARG_X0 or ARG_X1)." */
    static void answeredRuleFits() {
        DcgEngine x = Build.compiled("00: 'a", "01: 'a", "0x: 'b", "02: 'a", "13: 'a", "1y: 'a | 'b", "2x:", "0y: 'a");
        Build.tokens(x, "ab");
        for (int nt = 0; nt <= 5; nt++) {
            for (int v = 0; v <= 3; v++) {
                for (int p = 0; p < 2; p++) {
                    int r = x.firstRule(nt, v, p, p + 1);
                    due("some rule", r >= 0, nt < 2);
                    if (r >= 0) {
                        headFits(x, r, nt, v);
                    }
                }
            }
        }
        int[] due = {0, 1, 3, 7};
        for (int v = 0; v <= 3; v++) {
            due("firstRule(0, " + v + ", 0, 1)", x.firstRule(0, v, 0, 1), due[v]);
            due("firstRule(1, " + v + ", 0, 1)", x.firstRule(1, v, 0, 1), v == 3 ? 4 : 5);
        }
    }

    /** "Nothing changes." */
    static void changesNothing() {
        DcgEngine x = wide("aab");
        answers(x, "firstRule(0, 1, 0, 2)", () -> x.firstRule(0, 1, 0, 2), 0);
        answers(x, "firstRule(1, 1, 0, 3)", () -> x.firstRule(1, 1, 0, 3), 1);
        answers(x, "firstRule(2, 1, 0, 1)", () -> x.firstRule(2, 1, 0, 1), DcgEngine.NO_RULE);
    }

    public static void main(String[] args) {
        run(Promise11Test.class);
    }
}
