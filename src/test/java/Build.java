/**
 * Writes grammars short. A rule is "0x: 1y 'c 23 | 0x": a head, a colon, and items; a nonterminal
 * is its digit and an argument (0..3, x for X0, y for X1), a token is a quote and its number in
 * hexadecimal.
 */
final class Build {
    private Build() {
    }

    static int argument(char written) {
        switch (written) {
            case 'x':
                return DcgEngine.ARG_X0;
            case 'y':
                return DcgEngine.ARG_X1;
            default:
                return written - '0';
        }
    }

    static void item(DcgEngine x, String written) {
        boolean taken;
        if (written.equals("|")) {
            taken = x.addItem(DcgEngine.ITEM_BAR, 0, 0);
        } else if (written.charAt(0) == '\'') {
            taken = x.addItem(DcgEngine.ITEM_TERMINAL, Character.digit(written.charAt(1), 16), 0);
        } else {
            taken = x.addItem(DcgEngine.ITEM_NONTERMINAL, written.charAt(0) - '0', argument(written.charAt(1)));
        }
        insist(taken, written);
    }

    /** Begins a rule and feeds its items, but leaves it open. */
    static void openRule(DcgEngine x, String rule) {
        insist(x.beginRule(rule.charAt(0) - '0', argument(rule.charAt(1))), rule);
        String body = rule.substring(3).trim();
        if (!body.isEmpty()) {
            for (String written : body.split(" +")) {
                item(x, written);
            }
        }
    }

    static DcgEngine grammar(String... rules) {
        DcgEngine x = new DcgEngine(DcgEngine.MAX_RULES, DcgEngine.MAX_TOKENS);
        for (String rule : rules) {
            openRule(x, rule);
            insist(x.endRule(), rule);
        }
        return x;
    }

    static DcgEngine compiled(String... rules) {
        DcgEngine x = grammar(rules);
        insist(x.compile() == DcgEngine.COMPILE_OK, "compile");
        return x;
    }

    /** Replaces the token string by the tokens written as hexadecimal digits. */
    static void tokens(DcgEngine x, String digits) {
        x.clearTokens();
        for (int i = 0; i < digits.length(); i++) {
            insist(x.addToken(Character.digit(digits.charAt(i), 16)), digits);
        }
    }

    private static void insist(boolean taken, String what) {
        if (!taken) {
            throw new IllegalStateException("refused while a test was set up: " + what);
        }
    }
}
