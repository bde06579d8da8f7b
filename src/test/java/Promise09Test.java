/** Promise 9: answerMask. */
public final class Promise09Test extends Span {
    private static void refusedMask(DcgEngine x, int nt) {
        answers(x, "answerMask(" + nt + ")", () -> x.answerMask(nt), DcgEngine.REFUSED);
    }

    /** "answerMask(nt) answers REFUSED if COMPILED is false" */
    static void refusedWhenNotCompiled() {
        for (DcgEngine x : uncompiled()) {
            for (int nt = -1; nt <= 6; nt++) {
                refusedMask(x, nt);
            }
        }
    }

    /** "or nt is not in 0..5" */
    static void refusedForWrongNonterminal() {
        for (String string : new String[] {"", "aab", "aaaaaaaa"}) {
            DcgEngine x = wide(string);
            for (int nt : ODD_NUMBERS) {
                if (isIn(nt, 0, 5)) {
                    due("answerMask(" + nt + ") in 0..15", isIn(x.answerMask(nt), 0, 15), true);
                } else {
                    refusedMask(x, nt);
                }
            }
        }
    }

    /** "Otherwise the answer is the sum of 2^v over all v in 0..3 for which D(nt, v, 0, tokenCount()) holds; it lies in 0..15" */
    static void everySumIsMet() {
        for (int mask = 0; mask <= 15; mask++) {
            for (int nt = 0; nt <= 5; nt++) {
                DcgEngine x = Build.grammar((nt + 1) % 6 + "x: 'b");
                for (int v = 0; v <= 3; v++) {
                    Build.openRule(x, nt + "" + v + (v % 2 == 0 ? ": 'a |" : ": | 'a"));
                    if ((mask >> v & 1) == 0) {
                        x.removeLastRule();
                    } else {
                        x.endRule();
                    }
                }
                x.compile();
                due("empty string", x.answerMask(nt), mask);
                x.addToken(10);
                due("one token", x.answerMask(nt), mask);
                x.addToken(10);
                due("two tokens", x.answerMask(nt), 0);
            }
        }
    }

    /** "for which D(nt, v, 0, tokenCount()) holds": the whole string, neither a part at its start nor at its end. */
    static void wholeStringAlone() {
        DcgEngine x = Build.compiled("00: 'a", "01: 'b", "02: 'a 'b", "03: 'a 'b 'c");
        Build.tokens(x, "a");
        due("a", x.answerMask(0), 1);
        Build.tokens(x, "ab");
        due("a b", x.answerMask(0), 4);
        Build.tokens(x, "b");
        due("b", x.answerMask(0), 2);
        Build.tokens(x, "abc");
        due("a b c", x.answerMask(0), 8);
        Build.tokens(x, "abcd");
        due("a b c d", x.answerMask(0), 0);
        due("none", x.answerMask(5), 0);
    }

    /** "bit v is set exactly when prove(nt, v, 0, tokenCount()) is YES" */
    static void bitsAgreeWithProve() {
        for (String string : new String[] {"", "a", "b", "ab", "aab", "abb", "aaaaaaaa", "aaaabbbb"}) {
            DcgEngine x = wide(string);
            for (int nt = 0; nt <= 5; nt++) {
                for (int v = 0; v <= 3; v++) {
                    int proved = x.prove(nt, v, 0, string.length());
                    due(string + ": answerMask(" + nt + "), bit " + v, x.answerMask(nt) >> v & 1, proved);
                }
            }
        }
    }

    /** "With an empty token string it describes the empty span 0..0." */
    static void emptyString() {
        DcgEngine x = Build.compiled("01:", "1x: 0x", "2x: 'a |", "3x: 'a | 'b", "4y: | 'a", "42: 'b");
        for (int round = 0; round < 2; round++) {
            due("one value", x.answerMask(0), 2);
            due("through another", x.answerMask(1), 2);
            due("last alternative", x.answerMask(2), 15);
            due("tokens alone", x.answerMask(3), 0);
            due("first alternative", x.answerMask(4), 15);
            due("no rule", x.answerMask(5), 0);
            Build.tokens(x, "ab");
            due("with tokens", x.answerMask(2), 0);
            x.clearTokens();
        }
    }

    /** "Nothing changes." */
    static void changesNothing() {
        DcgEngine x = wide("aab");
        answers(x, "answerMask(0)", () -> x.answerMask(0), 0);
        answers(x, "answerMask(1)", () -> x.answerMask(1), 15);
        answers(x, "answerMask(4)", () -> x.answerMask(4), 15);
    }

    public static void main(String[] args) {
        run(Promise09Test.class);
    }
}
