/** Promise 8: prove. */
public final class Promise08Test extends Span {
    private static void refusedProof(DcgEngine x, int nt, int v, int from, int to) {
        String call = "prove(" + nt + ", " + v + ", " + from + ", " + to + ")";
        answers(x, call, () -> x.prove(nt, v, from, to), DcgEngine.REFUSED);
    }

    /** "prove(nt, v, from, to) answers REFUSED if any of these holds: COMPILED is false" */
    static void refusedWhenNotCompiled() {
        for (DcgEngine x : uncompiled()) {
            for (int nt = 0; nt <= 5; nt++) {
                refusedProof(x, nt, 0, 0, 0);
                refusedProof(x, nt, 3, 0, 2);
                refusedProof(x, nt, 3, 2, 2);
                refusedProof(x, nt, 4, 2, 1);
            }
        }
    }

    /** "nt is not in 0..5" */
    static void refusedForWrongNonterminal() {
        DcgEngine x = wide("aab");
        for (int nt : ODD_NUMBERS) {
            for (int v = 0; v <= 3 && !isIn(nt, 0, 5); v++) {
                refusedProof(x, nt, v, 0, 0);
                refusedProof(x, nt, v, 0, 3);
                refusedProof(x, nt, v, 3, 3);
            }
        }
    }

    /** "v is not in 0..3" */
    static void refusedForWrongValue() {
        DcgEngine x = wide("aab");
        for (int v : ODD_NUMBERS) {
            for (int nt = 0; nt <= 5 && !isIn(v, 0, 3); nt++) {
                refusedProof(x, nt, v, 0, 0);
                refusedProof(x, nt, v, 0, 3);
                refusedProof(x, nt, v, 3, 3);
            }
        }
    }

    /** "it is not true that 0 <= from <= to <= tokenCount()": from is below 0. */
    static void refusedForNegativeFrom() {
        DcgEngine x = wide("aab");
        for (int from : ODD_NUMBERS) {
            for (int to = -1; to <= 3 && from < 0; to++) {
                refusedProof(x, 1, 1, from, to);
            }
            if (from < 0) {
                refusedProof(x, 5, 3, from, from);
            }
        }
    }

    /** "it is not true that 0 <= from <= to <= tokenCount()": to is below from. */
    static void refusedForToBelowFrom() {
        DcgEngine x = wide("aab");
        for (int from = 0; from <= 3; from++) {
            for (int to : ODD_NUMBERS) {
                if (to < from) {
                    refusedProof(x, 0, 0, from, to);
                }
            }
        }
    }

    /** "it is not true that 0 <= from <= to <= tokenCount()": to is above tokenCount(). */
    static void refusedForToPastTheEnd() {
        String all = "aabaabaa";
        for (int n = 0; n <= 8; n++) {
            DcgEngine x = wide(all.substring(0, n));
            refusedProof(x, 0, 0, 0, n + 1);
            refusedProof(x, 0, 0, n, n + 1);
            refusedProof(x, 0, 0, n + 1, n + 1);
        }
        DcgEngine x = wide("aab");
        for (int to : ODD_NUMBERS) {
            for (int from = 0; from <= 4 && to > 3; from++) {
                refusedProof(x, 0, 0, from, to);
            }
        }
    }

    /** "it is not true that 0 <= from <= to <= tokenCount()": a string that was longer is no longer. */
    static void refusedPastTheEndOfAClearedString() {
        DcgEngine x = wide("aaaaaaaa");
        due("while it is long", x.prove(0, 0, 0, 8), DcgEngine.YES);
        x.clearTokens();
        refusedProof(x, 0, 0, 0, 1);
        refusedProof(x, 0, 0, 8, 8);
        x.addToken(10);
        due("one token", x.prove(0, 0, 0, 1), DcgEngine.YES);
        refusedProof(x, 0, 0, 0, 2);
        refusedProof(x, 0, 0, 2, 2);
    }

    /** "answers REFUSED if any of these holds": and for no other arguments. */
    static void refusedForNothingElse() {
        DcgEngine x = wide("aab");
        int[] before = everything(x);
        for (int nt : ODD_NUMBERS) {
            for (int v : ODD_NUMBERS) {
                for (int from : ODD_NUMBERS) {
                    for (int to : ODD_NUMBERS) {
                        boolean refused = x.prove(nt, v, from, to) == DcgEngine.REFUSED;
                        if (refused == isSpan(x, nt, v, from, to)) {
                            due("prove(" + nt + ", " + v + ", " + from + ", " + to + ") refused", refused, !refused);
                        }
                    }
                }
            }
        }
        same("prove", before, everything(x));
    }

    /** "Otherwise the answer is YES if D(nt, v, from, to) holds, else NO." */
    static void yesOrNo() {
        DcgEngine x = Build.compiled("0x: 'a 'b", "12: 'a | 'a 'b 'a", "33: 'b 0x |");
        Build.tokens(x, "abab");
        for (int v = 0; v <= 3; v++) {
            for (int from = 0; from <= 4; from++) {
                for (int to = from; to <= 4; to++) {
                    boolean ab = from % 2 == 0 && to == from + 2;
                    boolean a = v == 2 && from % 2 == 0 && (to == from + 1 && to < 4 || to == from + 3);
                    boolean bab = v == 3 && (to == from || from == 1 && to == 4);
                    String span = v + ", " + from + ", " + to + ")";
                    due("prove(0, " + span, x.prove(0, v, from, to), ab ? DcgEngine.YES : DcgEngine.NO);
                    due("prove(1, " + span, x.prove(1, v, from, to), a ? DcgEngine.YES : DcgEngine.NO);
                    due("prove(3, " + span, x.prove(3, v, from, to), bab ? DcgEngine.YES : DcgEngine.NO);
                    due("prove(5, " + span, x.prove(5, v, from, to), DcgEngine.NO);
                }
            }
        }
    }

    /** "An empty span (from == to, including from == to == tokenCount()) is allowed and is YES exactly when the derivation relation says so." */
    static void emptySpans() {
        String all = "abababab";
        for (int n = 0; n <= 8; n++) {
            DcgEngine x = Build.compiled("0x:", "11:", "2x: 'a |", "3x: 'a | 'b", "4x: 1x 2x");
            Build.tokens(x, all.substring(0, n));
            for (int p = 0; p <= n; p++) {
                for (int v = 0; v <= 3; v++) {
                    int one = v == 1 ? DcgEngine.YES : DcgEngine.NO;
                    due("empty body at " + p + " of " + n, x.prove(0, v, p, p), DcgEngine.YES);
                    due("for one value at " + p + " of " + n, x.prove(1, v, p, p), one);
                    due("empty alternative at " + p + " of " + n, x.prove(2, v, p, p), DcgEngine.YES);
                    due("tokens alone at " + p + " of " + n, x.prove(3, v, p, p), DcgEngine.NO);
                    due("two that vanish at " + p + " of " + n, x.prove(4, v, p, p), one);
                    due("no rule at " + p + " of " + n, x.prove(5, v, p, p), DcgEngine.NO);
                }
            }
        }
    }

    /** "0 <= from <= to <= tokenCount()": the whole string, up to the longest one. */
    static void wholeString() {
        String all = "aaaaaaaa";
        for (int n = 0; n <= 8; n++) {
            DcgEngine x = wide(all.substring(0, n));
            due("the whole of " + n, x.prove(0, 3, 0, n), DcgEngine.YES);
            due("the whole of " + n, x.prove(2, 3, 0, n), n == 1 ? DcgEngine.YES : DcgEngine.NO);
        }
    }

    /** "Nothing changes." */
    static void changesNothing() {
        DcgEngine x = wide("aab");
        for (int from = 0; from <= 3; from++) {
            for (int to = from; to <= 3; to++) {
                int due = to < 3 || from == 3 ? DcgEngine.YES : DcgEngine.NO;
                int start = from;
                int end = to;
                answers(x, "prove(0, 1, " + from + ", " + to + ")", () -> x.prove(0, 1, start, end), due);
            }
        }
    }

    public static void main(String[] args) {
        run(Promise08Test.class);
    }
}
