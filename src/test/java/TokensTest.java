/** Promises 7 and 15: addToken, clearTokens, tokenCount and token. */
public final class TokensTest {
    private static final Check check = new Check();

    private static void addToken() {
        for (int tok : Check.ODD_NUMBERS) {
            DcgEngine x = Build.compiled("0x: 'a", "1x: 'a 'b");
            Build.tokens(x, "a");
            int[] before = Check.state(x);
            boolean due = tok >= 0 && tok <= 15;
            String call = "addToken(" + tok + ")";
            check.due(call, x.addToken(tok), due);
            check.due(call + " tokenCount()", x.tokenCount(), due ? 2 : 1);
            check.due(call + " token(0)", x.token(0), 10);
            check.due(call + " token(1)", x.token(1), due ? tok : -1);
            if (!due) {
                check.same(call, before, Check.state(x));
            }
            check.due(call + " stays compiled", x.prove(0, 0, 0, 1), DcgEngine.YES);
        }
    }

    private static void fullString() {
        for (int cap = 1; cap <= 8; cap++) {
            DcgEngine x = new DcgEngine(12, cap);
            for (int i = 0; i < cap; i++) {
                check.due("tokenCount()", x.tokenCount(), i);
                check.due("addToken", x.addToken(15 - i), true);
            }
            int[] before = Check.state(x);
            check.due("addToken at tokenCap " + cap, x.addToken(0), false);
            check.due("wrong token at tokenCap " + cap, x.addToken(16), false);
            check.same("addToken at tokenCap", before, Check.state(x));
            for (int i : Check.ODD_NUMBERS) {
                check.due("token(" + i + ")", x.token(i), i >= 0 && i < cap ? 15 - i : -1);
            }
            x.clearTokens();
            check.due("tokenCount() when cleared", x.tokenCount(), 0);
            for (int i : Check.ODD_NUMBERS) {
                check.due("token(" + i + ") when cleared", x.token(i), -1);
            }
            check.due("addToken when cleared", x.addToken(3), true);
            check.due("token(0)", x.token(0), 3);
            check.due("token(1)", x.token(1), -1);
        }
    }

    private static void clearTokens() {
        DcgEngine x = new DcgEngine(12, 8);
        int[] fresh = Check.state(x);
        x.clearTokens();
        check.same("clearTokens on an empty string", fresh, Check.state(x));
        Build.openRule(x, "2x: 'a 1y |");
        int[] open = Check.state(x);
        Build.tokens(x, "0123");
        x.clearTokens();
        x.clearTokens();
        check.same("tokens put and cleared", open, Check.state(x));
        check.due("the rule is still open", x.addItem(2, 0, 0) && x.endRule(), true);
    }

    private static void queriesFollowTokens() {
        DcgEngine x = Build.compiled("0x: 'a 0x | 'b");
        check.due("empty string", x.answerMask(0), 0);
        x.addToken(10);
        check.due("a", x.answerMask(0), 0);
        x.addToken(11);
        check.due("a b", x.answerMask(0), 15);
        check.due("a b, ends", x.endMask(0, 1, 0), 4);
        x.addToken(11);
        check.due("a b b", x.answerMask(0), 0);
        check.due("a b b, ends", x.endMask(0, 1, 0), 4);
        x.clearTokens();
        check.due("cleared", x.endMask(0, 1, 0), 0);
        check.due("cleared, past the end", x.prove(0, 1, 0, 1), DcgEngine.REFUSED);
        x.addToken(11);
        check.due("b", x.endMask(0, 1, 0), 2);
        check.due("b, from the end", x.endMask(0, 1, 1), 0);
    }

    public static void main(String[] args) {
        addToken();
        fullString();
        clearTokens();
        queriesFollowTokens();
        check.finish();
    }
}
