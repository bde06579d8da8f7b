/** Promise 1: Construction. */
public final class Promise01Test extends Check {
    private static int rulesTaken(DcgEngine x) {
        int taken = 0;
        while (taken < 20 && x.beginRule(taken % 6, 0)) {
            x.endRule();
            taken++;
        }
        return taken;
    }

    private static int tokensTaken(DcgEngine x) {
        int taken = 0;
        while (taken < 20 && x.addToken(taken % 16)) {
            taken++;
        }
        return taken;
    }

    private static void ruleCapIs(int given, int due) {
        due("rules with ruleCap " + given, rulesTaken(new DcgEngine(given, 3)), due);
    }

    private static void tokenCapIs(int given, int due) {
        due("tokens with tokenCap " + given, tokensTaken(new DcgEngine(3, given)), due);
    }

    private static int kept(int given, int greatest) {
        return Math.max(1, Math.min(greatest, given));
    }

    /** "ruleCap is the greatest number of rules: a value below 1 becomes 1" */
    static void ruleCapBelowOneBecomesOne() {
        for (int given : new int[] {0, -1, -2, -12, -255, Integer.MIN_VALUE + 1, Integer.MIN_VALUE}) {
            ruleCapIs(given, 1);
        }
    }

    /** "a value above 12 becomes 12" */
    static void ruleCapAboveTwelveBecomesTwelve() {
        for (int given : new int[] {13, 14, 16, 257, 65537, Integer.MAX_VALUE - 1, Integer.MAX_VALUE}) {
            ruleCapIs(given, 12);
        }
    }

    /** "any value in 1..12 is kept" */
    static void ruleCapInRangeIsKept() {
        for (int given = 1; given <= 12; given++) {
            ruleCapIs(given, given);
        }
    }

    /** "tokenCap is the greatest token count: below 1 becomes 1" */
    static void tokenCapBelowOneBecomesOne() {
        for (int given : new int[] {0, -1, -2, -8, -255, Integer.MIN_VALUE + 1, Integer.MIN_VALUE}) {
            tokenCapIs(given, 1);
        }
    }

    /** "above 8 becomes 8" */
    static void tokenCapAboveEightBecomesEight() {
        for (int given : new int[] {9, 10, 12, 16, 257, 65537, Integer.MAX_VALUE - 1, Integer.MAX_VALUE}) {
            tokenCapIs(given, 8);
        }
    }

    /** "any value in 1..8 is kept" */
    static void tokenCapInRangeIsKept() {
        for (int given = 1; given <= 8; given++) {
            tokenCapIs(given, given);
        }
    }

    /** "Any int is accepted, including Integer.MIN_VALUE and Integer.MAX_VALUE." */
    static void anyIntIsAccepted() {
        for (int ruleCap : ODD_NUMBERS) {
            for (int tokenCap : ODD_NUMBERS) {
                String made = "new DcgEngine(" + ruleCap + ", " + tokenCap + "): ";
                DcgEngine x = new DcgEngine(ruleCap, tokenCap);
                due(made + "rules", rulesTaken(x), kept(ruleCap, 12));
                due(made + "tokens", tokensTaken(x), kept(tokenCap, 8));
            }
        }
    }

    /** "DcgEngine(ruleCap, tokenCap) fixes two limits for the life of the object." */
    static void limitsHoldForLife() {
        for (int ruleCap = 1; ruleCap <= 12; ruleCap++) {
            for (int tokenCap = 1; tokenCap <= 8; tokenCap++) {
                DcgEngine x = new DcgEngine(ruleCap, tokenCap);
                for (int round = 0; round < 3; round++) {
                    due("rules in round " + round, rulesTaken(x), ruleCap);
                    due("tokens in round " + round, tokensTaken(x), tokenCap);
                    x.compile();
                    due("rules when compiled", rulesTaken(x), 0);
                    due("tokens when compiled", tokensTaken(x), 0);
                    x.clearTokens();
                    due("tokens when cleared", tokensTaken(x), tokenCap);
                    x.removeLastRule();
                    due("rules after a removed one", rulesTaken(x), 1);
                    for (int r = 0; r < ruleCap; r++) {
                        due("removeLastRule()", x.removeLastRule(), true);
                        due("tokens when rules go", tokensTaken(x), 0);
                    }
                    x.clearTokens();
                }
            }
        }
    }

    /** "The object starts with no rules" */
    static void startsWithNoRules() {
        for (int cap : ODD_NUMBERS) {
            DcgEngine x = new DcgEngine(cap, cap);
            for (int r : ODD_NUMBERS) {
                due("ruleHead(" + r + ")", x.ruleHead(r), -1);
                due("item(" + r + ", 0)", x.item(r, 0), -1);
            }
            due("compile()", x.compile(), DcgEngine.COMPILE_NO_RULES);
            due("removeLastRule()", x.removeLastRule(), false);
            due("left cycles", leftCycles(x), 0);
            due("beginRule(0, 0)", x.beginRule(0, 0), true);
            due("ruleHead(0)", x.ruleHead(0), OPEN_MARK);
        }
    }

    /** "no tokens" */
    static void startsWithNoTokens() {
        for (int cap : ODD_NUMBERS) {
            DcgEngine x = new DcgEngine(cap, cap);
            due("tokenCount()", x.tokenCount(), 0);
            for (int i : ODD_NUMBERS) {
                due("token(" + i + ")", x.token(i), -1);
            }
        }
    }

    /** "no open rule" */
    static void startsWithNoOpenRule() {
        for (int cap : ODD_NUMBERS) {
            DcgEngine x = new DcgEngine(cap, cap);
            due("endRule()", x.endRule(), false);
            due("addItem(2, 0, 0)", x.addItem(2, 0, 0), false);
            due("compile()", x.compile(), DcgEngine.COMPILE_NO_RULES);
        }
    }

    /** "and COMPILED false" */
    static void startsUncompiled() {
        for (int cap : ODD_NUMBERS) {
            DcgEngine x = new DcgEngine(cap, cap);
            due("prove(0, 0, 0, 0)", x.prove(0, 0, 0, 0), DcgEngine.REFUSED);
            due("answerMask(0)", x.answerMask(0), DcgEngine.REFUSED);
            due("endMask(0, 0, 0)", x.endMask(0, 0, 0), DcgEngine.REFUSED);
            due("firstRule(0, 0, 0, 0)", x.firstRule(0, 0, 0, 0), DcgEngine.REFUSED);
        }
    }

    /** "fixes two limits for the life of the object": of this one, whatever others are made. */
    static void objectsAreApart() {
        DcgEngine small = new DcgEngine(1, 1);
        int[] fresh = everything(small);
        DcgEngine large = Build.compiled("0x: 'a", "1x:");
        Build.tokens(large, "aaaa");
        same("another object", fresh, everything(small));
        int[] used = everything(large);
        due("rules of the small one", rulesTaken(small), 1);
        due("tokens of the small one", tokensTaken(small), 1);
        small.compile();
        small.clearTokens();
        same("the small object", used, everything(large));
        due("rules of the large one", rulesTaken(large), 10);
        due("tokens of the large one", tokensTaken(large), 4);
    }

    public static void main(String[] args) {
        run(Promise01Test.class);
    }
}
