/** Promise 15: tokenCount and token. */
public final class Promise15Test extends Check {
    /** "tokenCount() answers the number of tokens in the string, in 0..tokenCap." */
    static void countGoesFromNoughtToTokenCap() {
        for (int cap = 1; cap <= 8; cap++) {
            DcgEngine x = new DcgEngine(12, cap);
            for (int n = 0; n < cap; n++) {
                due("tokenCount()", x.tokenCount(), n);
                x.addToken(16);
                due("tokenCount() after a wrong token", x.tokenCount(), n);
                x.addToken(n);
            }
            for (int more = 0; more < 3; more++) {
                due("tokenCount() at tokenCap", x.tokenCount(), cap);
                x.addToken(0);
            }
            x.clearTokens();
            due("tokenCount() when cleared", x.tokenCount(), 0);
        }
    }

    /** "token(i) answers t[i], or -1 if i is not in 0..tokenCount()-1" */
    static void everyPlace() {
        for (int cap = 1; cap <= 8; cap++) {
            DcgEngine x = new DcgEngine(12, cap);
            for (int n = 0; n <= cap; n++) {
                for (int i : ODD_NUMBERS) {
                    int due = isIn(i, 0, n - 1) ? 15 - i : -1;
                    answers(x, "token(" + i + ") of " + n, () -> x.token(i), due);
                }
                due("token(" + n + ")", x.token(n), -1);
                x.addToken(15 - n);
            }
        }
    }

    /** "token(i) answers t[i]": each token that there is, at each place. */
    static void everyToken() {
        for (int token = 0; token <= 15; token++) {
            for (int place = 0; place < 8; place++) {
                DcgEngine x = new DcgEngine(1, 8);
                for (int i = 0; i < 8; i++) {
                    x.addToken(i == place ? token : 15 - token);
                }
                for (int i = 0; i < 8; i++) {
                    due("token(" + i + ")", x.token(i), i == place ? token : 15 - token);
                }
            }
        }
    }

    /** "including any negative i" */
    static void negativePlace() {
        DcgEngine full = new DcgEngine(1, 8);
        Build.tokens(full, "fedcba98");
        for (int i : ODD_NUMBERS) {
            if (i < 0) {
                due("token(" + i + ")", full.token(i), -1);
                due("token(" + i + ") of none", new DcgEngine(1, 8).token(i), -1);
            }
        }
    }

    /** "or -1 if i is not in 0..tokenCount()-1": nor one that was there before. */
    static void clearedTokensAreGone() {
        DcgEngine x = new DcgEngine(1, 8);
        Build.tokens(x, "fedcba98");
        x.clearTokens();
        for (int i = 0; i < 8; i++) {
            due("token(" + i + ")", x.token(i), -1);
        }
        x.addToken(1);
        due("token(0)", x.token(0), 1);
        due("token(1)", x.token(1), -1);
    }

    /** "Neither changes anything." */
    static void changesNothing() {
        DcgEngine x = Build.compiled("0x: 'a 0x |");
        Build.tokens(x, "aab");
        answers(x, "tokenCount()", x::tokenCount, 3);
        answers(x, "token(2)", () -> x.token(2), 11);
        answers(x, "token(3)", () -> x.token(3), -1);
        Build.openRule(x, "1x: 'b");
        answers(x, "tokenCount()", x::tokenCount, 3);
        answers(x, "token(0)", () -> x.token(0), 10);
        due("the rule is still open", x.endRule(), true);
    }

    public static void main(String[] args) {
        run(Promise15Test.class);
    }
}
