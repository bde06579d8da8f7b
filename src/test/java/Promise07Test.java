/** Promise 7: addToken and clearTokens. */
public final class Promise07Test extends Check {
    private static void refusedToken(DcgEngine x, int tok) {
        refused(x, "addToken(" + tok + ")", () -> x.addToken(tok));
    }

    private static DcgEngine compiledWith(String tokens) {
        DcgEngine x = Build.compiled("0x: 'a 0x |", "12: 'b 'a | 0x 'b");
        Build.tokens(x, tokens);
        return x;
    }

    /** "It is refused (false, nothing changes) if tok is not in 0..15" */
    static void refusedForWrongToken() {
        for (int tok : ODD_NUMBERS) {
            if (!isIn(tok, 0, 15)) {
                refusedToken(new DcgEngine(1, 1), tok);
                refusedToken(new DcgEngine(12, 8), tok);
                refusedToken(compiledWith(""), tok);
                refusedToken(compiledWith("aba"), tok);
                DcgEngine open = Build.grammar();
                Build.openRule(open, "0x: 'a");
                refusedToken(open, tok);
            }
        }
    }

    /** "then refused (false, nothing changes) if tokenCount() equals tokenCap" */
    static void refusedAtTokenCap() {
        for (int cap = 1; cap <= 8; cap++) {
            DcgEngine x = new DcgEngine(2, cap);
            Build.openRule(x, "0x: 'a 0x | 'b");
            x.endRule();
            x.compile();
            for (int i = 0; i < cap; i++) {
                due("token " + i + " of " + cap, x.addToken(10 + i % 2), true);
            }
            for (int tok = 0; tok <= 15; tok++) {
                refusedToken(x, tok);
            }
            x.clearTokens();
            due("cleared, it takes one", x.addToken(3), true);
            due("token(0)", x.token(0), 3);
        }
    }

    /** "then refused": a wrong token at tokenCap. */
    static void refusedForBothReasons() {
        for (int tok : ODD_NUMBERS) {
            refusedToken(compiledWith("aaaaabab"), tok);
        }
    }

    /** "Otherwise the token is appended as t[n] where n is the old count, the count grows by one, and the answer is true." */
    static void tokenGoesToTheEnd() {
        for (int first = 0; first <= 15; first++) {
            DcgEngine x = new DcgEngine(1, 8);
            for (int n = 0; n < 8; n++) {
                due("tokenCount() before", x.tokenCount(), n);
                due("addToken", x.addToken((first + 5 * n) % 16), true);
                due("tokenCount() after", x.tokenCount(), n + 1);
                for (int i = 0; i <= n; i++) {
                    due("token(" + i + ") of " + n, x.token(i), (first + 5 * i) % 16);
                }
            }
        }
    }

    /** "clearTokens() empties the token string; tokenCount() becomes 0." */
    static void clearEmptiesTheString() {
        String all = "f0123456";
        for (int n = 0; n <= 8; n++) {
            DcgEngine x = compiledWith(all.substring(0, n));
            x.clearTokens();
            due("tokenCount()", x.tokenCount(), 0);
            for (int i : ODD_NUMBERS) {
                due("token(" + i + ")", x.token(i), -1);
            }
            due("a new token", x.addToken(9) && x.token(0) == 9 && x.tokenCount() == 1, true);
            due("and no old one", x.token(1), -1);
        }
    }

    /** "It always works, even on an empty string." */
    static void clearWorksOnAnEmptyString() {
        DcgEngine fresh = new DcgEngine(12, 8);
        DcgEngine open = Build.grammar("1x:");
        Build.openRule(open, "2x: 'a 1y |");
        DcgEngine compiled = compiledWith("");
        for (DcgEngine x : new DcgEngine[] {fresh, open, compiled}) {
            int[] before = everything(x);
            x.clearTokens();
            same("clearTokens()", before, everything(x));
            x.clearTokens();
            same("clearTokens() twice", before, everything(x));
            Build.tokens(x, "01234567");
            x.clearTokens();
            same("clearTokens() on a full string", before, everything(x));
        }
    }

    /** "Neither call changes the rules, the open rule, or COMPILED.": the rules. */
    static void rulesStay() {
        DcgEngine x = compiledWith("");
        int[] rules = rules(x);
        for (int n = 0; n < 9; n++) {
            x.addToken(n);
            same("the rules: addToken", rules, rules(x));
        }
        x.clearTokens();
        same("the rules: clearTokens", rules, rules(x));
    }

    /** "Neither call changes the rules, the open rule, or COMPILED.": the open rule. */
    static void openRuleStays() {
        DcgEngine x = Build.grammar("1x:");
        Build.openRule(x, "2x: 'a 1y |");
        int[] rules = rules(x);
        for (int n = 0; n < 9; n++) {
            x.addToken(n);
            same("the open rule: addToken", rules, rules(x));
        }
        x.clearTokens();
        same("the open rule: clearTokens", rules, rules(x));
        due("it takes items and closes", x.addItem(2, 0, 0) && x.endRule(), true);
        x.addToken(0);
        x.clearTokens();
        due("it stays closed", x.endRule(), false);
    }

    /** "Neither call changes the rules, the open rule, or COMPILED.": COMPILED. */
    static void compiledStays() {
        DcgEngine yes = compiledWith("");
        DcgEngine no = Build.grammar("0x: 'a");
        DcgEngine recursive = Build.grammar("0x: 0x");
        recursive.compile();
        for (int n = 0; n < 9; n++) {
            yes.addToken(n);
            no.addToken(n);
            recursive.addToken(n);
            due("compiled", isCompiled(yes), true);
            due("not compiled", isCompiled(no) || isCompiled(recursive), false);
        }
        yes.clearTokens();
        no.clearTokens();
        recursive.clearTokens();
        due("compiled, cleared", isCompiled(yes), true);
        due("not compiled, cleared", isCompiled(no) || isCompiled(recursive), false);
    }

    private static void asked(DcgEngine x, int wholeMask, int ends) {
        String string = "with " + x.tokenCount() + " tokens: ";
        due(string + "answerMask(0)", x.answerMask(0), wholeMask);
        due(string + "endMask(0, 1, 0)", x.endMask(0, 1, 0), ends);
        for (int to = 0; to <= x.tokenCount(); to++) {
            due(string + "prove to " + to, x.prove(0, 1, 0, to), ends >> to & 1);
            due(string + "firstRule to " + to, x.firstRule(0, 1, 0, to), (ends >> to & 1) - 1);
        }
        due(string + "past the end", x.prove(0, 1, 0, x.tokenCount() + 1), DcgEngine.REFUSED);
    }

    /** "Queries made after a token change use the current token string." */
    static void queriesUseTheCurrentString() {
        DcgEngine x = Build.compiled("0x: 'a 0x | 'b");
        asked(x, 0, 0);
        x.addToken(10);
        asked(x, 0, 0);
        x.addToken(11);
        asked(x, 15, 4);
        x.addToken(11);
        asked(x, 0, 4);
        x.clearTokens();
        asked(x, 0, 0);
        x.addToken(11);
        asked(x, 15, 2);
        x.addToken(10);
        asked(x, 0, 2);
    }

    /** "Queries made after a token change use the current token string.": also one made while not compiled. */
    static void queriesUseTokensGivenBeforeCompile() {
        DcgEngine x = Build.grammar("0x: 'a 0x | 'b");
        Build.tokens(x, "ab");
        x.compile();
        asked(x, 15, 4);
        Build.openRule(x, "1x:");
        Build.tokens(x, "aaaaaaab");
        x.endRule();
        x.compile();
        asked(x, 15, 256);
    }

    public static void main(String[] args) {
        run(Promise07Test.class);
    }
}
