/** Promise 10: endMask. */
public final class Promise10Test extends Span {
    private static void refusedEnds(DcgEngine x, int nt, int v, int from) {
        String call = "endMask(" + nt + ", " + v + ", " + from + ")";
        answers(x, call, () -> x.endMask(nt, v, from), DcgEngine.REFUSED);
    }

    /** "endMask(nt, v, from) answers REFUSED if any of these holds: COMPILED is false" */
    static void refusedWhenNotCompiled() {
        for (DcgEngine x : uncompiled()) {
            for (int nt = 0; nt <= 5; nt++) {
                refusedEnds(x, nt, 0, 0);
                refusedEnds(x, nt, 3, 2);
                refusedEnds(x, nt, 4, 3);
            }
        }
    }

    /** "nt is not in 0..5" */
    static void refusedForWrongNonterminal() {
        DcgEngine x = wide("aab");
        for (int nt : ODD_NUMBERS) {
            for (int v = 0; v <= 3 && !isIn(nt, 0, 5); v++) {
                refusedEnds(x, nt, v, 0);
                refusedEnds(x, nt, v, 3);
            }
        }
    }

    /** "v is not in 0..3" */
    static void refusedForWrongValue() {
        DcgEngine x = wide("aab");
        for (int v : ODD_NUMBERS) {
            for (int nt = 0; nt <= 5 && !isIn(v, 0, 3); nt++) {
                refusedEnds(x, nt, v, 0);
                refusedEnds(x, nt, v, 3);
            }
        }
    }

    /** "from is not in 0..tokenCount()": below 0. */
    static void refusedForNegativeFrom() {
        DcgEngine x = wide("aab");
        for (int from : ODD_NUMBERS) {
            for (int nt = 0; nt <= 5 && from < 0; nt++) {
                refusedEnds(x, nt, 0, from);
                refusedEnds(x, nt, 3, from);
            }
        }
    }

    /** "from is not in 0..tokenCount()": above it. */
    static void refusedForFromPastTheEnd() {
        String all = "aabaabaa";
        for (int n = 0; n <= 8; n++) {
            DcgEngine x = wide(all.substring(0, n));
            for (int from : ODD_NUMBERS) {
                if (from > n) {
                    refusedEnds(x, 0, 0, from);
                }
            }
            refusedEnds(x, 0, 0, n + 1);
        }
        DcgEngine x = wide("aaaaaaaa");
        x.clearTokens();
        refusedEnds(x, 0, 0, 1);
        refusedEnds(x, 0, 0, 8);
    }

    /** "answers REFUSED if any of these holds": and for no other arguments. */
    static void refusedForNothingElse() {
        DcgEngine x = wide("aab");
        int[] before = everything(x);
        for (int nt : ODD_NUMBERS) {
            for (int v : ODD_NUMBERS) {
                for (int from : ODD_NUMBERS) {
                    boolean due = !isIn(nt, 0, 5) || !isIn(v, 0, 3) || !isIn(from, 0, 3);
                    boolean refused = x.endMask(nt, v, from) == DcgEngine.REFUSED;
                    due("endMask(" + nt + ", " + v + ", " + from + ") refused", refused, due);
                }
            }
        }
        same("endMask", before, everything(x));
    }

    /** "Otherwise the answer is the sum of 2^j over all j in from..tokenCount() for which D(nt, v, from, j) holds." */
    static void sumOfEnds() {
        DcgEngine x = Build.compiled("0x: 'a | 'a 'b", "0x: 'b 'a 'b", "12: 'b |", "31: 'a 'b 'a 'b");
        Build.tokens(x, "abab");
        int[] first = {2 | 4, 16, 8 | 16, 0, 0};
        int[] second = {1, 2 | 4, 4, 8 | 16, 16};
        for (int from = 0; from <= 4; from++) {
            for (int v = 0; v <= 3; v++) {
                due("endMask(0, " + v + ", " + from + ")", x.endMask(0, v, from), first[from]);
                due("endMask(1, " + v + ", " + from + ")", x.endMask(1, v, from), v == 2 ? second[from] : 0);
                due("endMask(3, " + v + ", " + from + ")", x.endMask(3, v, from), v == 1 && from == 0 ? 16 : 0);
                due("endMask(5, " + v + ", " + from + ")", x.endMask(5, v, from), 0);
            }
        }
    }

    /** "Bits below from are never set" */
    static void noBitBelowFrom() {
        for (String string : new String[] {"", "a", "abab", "aaaaaaaa", "aaaabbbb"}) {
            DcgEngine x = wide(string);
            for (int nt = 0; nt <= 5; nt++) {
                for (int v = 0; v <= 3; v++) {
                    for (int from = 0; from <= string.length(); from++) {
                        due("bits below " + from, x.endMask(nt, v, from) & (1 << from) - 1, 0);
                    }
                }
            }
        }
    }

    /** "bit tokenCount() may be set; the answer lies in 0..511" */
    static void everyEndUpToTheLast() {
        String all = "aaaaaaaa";
        for (int n = 0; n <= 8; n++) {
            DcgEngine x = wide(all.substring(0, n));
            for (int from = 0; from <= n; from++) {
                due("all ends from " + from + " of " + n, x.endMask(0, 2, from), (2 << n) - (1 << from));
            }
        }
        due("the greatest answer", wide(all).endMask(0, 2, 0), 511);
        due("the last bit alone", wide(all).endMask(0, 2, 8), 256);
        due("the least answer", wide(all).endMask(5, 2, 0), 0);
    }

    /** "from is not in 0..tokenCount()": from == tokenCount() is allowed, and asks for the empty span. */
    static void fromTheEnd() {
        String all = "abababab";
        for (int n = 0; n <= 8; n++) {
            DcgEngine x = Build.compiled("01:", "1x: 'a | 'b", "2x: 'a | 0x");
            Build.tokens(x, all.substring(0, n));
            due("empty body", x.endMask(0, 1, n), 1 << n);
            due("another value", x.endMask(0, 2, n), 0);
            due("tokens alone", x.endMask(1, 1, n), 0);
            due("through another", x.endMask(2, 1, n), 1 << n);
        }
    }

    /** "For every j in from..tokenCount(), bit j is set exactly when prove(nt, v, from, j) is YES." */
    static void bitsAgreeWithProve() {
        for (String string : new String[] {"", "a", "b", "ab", "aab", "abb", "aaaaaaaa", "aaaabbbb", "babababa"}) {
            DcgEngine x = wide(string);
            for (int nt = 0; nt <= 5; nt++) {
                for (int v = 0; v <= 3; v++) {
                    for (int from = 0; from <= string.length(); from++) {
                        ends(x, nt, v, from, x.endMask(nt, v, from));
                    }
                }
            }
        }
    }

    /** "Nothing changes." */
    static void changesNothing() {
        DcgEngine x = wide("aab");
        answers(x, "endMask(0, 1, 0)", () -> x.endMask(0, 1, 0), 7);
        answers(x, "endMask(1, 1, 2)", () -> x.endMask(1, 1, 2), 12);
        answers(x, "endMask(4, 1, 3)", () -> x.endMask(4, 1, 3), 8);
    }

    public static void main(String[] args) {
        run(Promise10Test.class);
    }
}
