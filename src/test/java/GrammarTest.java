/** Promises 1 to 5, 13 and 14: construction, building the grammar, and reading it. */
public final class GrammarTest {
    private static final Check check = new Check();

    private static int kept(int wanted, int greatest) {
        return Math.max(1, Math.min(greatest, wanted));
    }

    private static void construction() {
        for (int cap : Check.ODD_NUMBERS) {
            capsAre(cap, 3, kept(cap, 12), 3);
            capsAre(3, cap, 3, kept(cap, 8));
        }
        for (int cap = 1; cap <= 12; cap++) {
            capsAre(cap, 13 - cap, cap, kept(13 - cap, 8));
        }
    }

    private static void capsAre(int ruleCap, int tokenCap, int mostRules, int mostTokens) {
        String made = "new DcgEngine(" + ruleCap + ", " + tokenCap + "): ";
        DcgEngine x = new DcgEngine(ruleCap, tokenCap);
        check.due(made + "ruleHead(0)", x.ruleHead(0), -1);
        check.due(made + "tokenCount()", x.tokenCount(), 0);
        check.due(made + "endRule()", x.endRule(), false);
        check.due(made + "answerMask(0)", x.answerMask(0), DcgEngine.REFUSED);
        int rules = 0;
        while (rules < 20 && x.beginRule(rules % 6, 0)) {
            x.endRule();
            rules++;
        }
        check.due(made + "rules taken", rules, mostRules);
        int tokens = 0;
        while (tokens < 20 && x.addToken(tokens % 16)) {
            tokens++;
        }
        check.due(made + "tokens taken", tokens, mostTokens);
        check.due(made + "tokenCount() at last", x.tokenCount(), mostTokens);
        check.due(made + "rule after a removed one", x.removeLastRule() && x.beginRule(5, 5), true);
        check.due(made + "and no second", x.endRule() && x.beginRule(5, 5), false);
        x.clearTokens();
        check.due(made + "token after clearing", x.addToken(15), true);
    }

    private static void beginRule() {
        for (int nt : Check.ODD_NUMBERS) {
            for (int arg : Check.ODD_NUMBERS) {
                DcgEngine x = Build.compiled("0x: 'a");
                Build.tokens(x, "a");
                int[] before = Check.state(x);
                boolean due = nt >= 0 && nt <= 5 && arg >= 0 && arg <= 5;
                String call = "beginRule(" + nt + ", " + arg + ")";
                check.due(call, x.beginRule(nt, arg), due);
                if (due) {
                    check.due(call + " ruleHead(1)", x.ruleHead(1), 64 + nt * 8 + arg);
                    check.due(call + " empty body", x.item(1, 0), -1);
                    check.due(call + " is no longer compiled", x.prove(0, 0, 0, 1), DcgEngine.REFUSED);
                    check.due(call + " keeps rule 0", x.ruleHead(0), 4);
                    check.due(call + " keeps item 0", x.item(0, 0), 10);
                    check.due(call + " keeps the tokens", x.token(0), 10);
                } else {
                    check.same(call, before, Check.state(x));
                    check.due(call + " stays compiled", x.prove(0, 0, 0, 1), DcgEngine.YES);
                }
            }
        }
        whileOpenOrFull();
    }

    private static void whileOpenOrFull() {
        DcgEngine x = Build.grammar("1x: 'a");
        Build.openRule(x, "0x: 1x");
        int[] before = Check.state(x);
        check.due("beginRule while one is open", x.beginRule(2, 0), false);
        check.same("beginRule while one is open", before, Check.state(x));
        DcgEngine full = new DcgEngine(2, 1);
        full.beginRule(0, 0);
        full.endRule();
        full.beginRule(0, 0);
        full.endRule();
        full.compile();
        int[] whole = Check.state(full);
        check.due("beginRule at ruleCap", full.beginRule(0, 0), false);
        check.same("beginRule at ruleCap", whole, Check.state(full));
        check.due("beginRule at ruleCap stays compiled", full.prove(0, 0, 0, 0), DcgEngine.YES);
    }

    private static void newRuleHasNoOldItems() {
        DcgEngine x = Build.grammar("0x: 'a 1x | 'b");
        x.removeLastRule();
        check.due("beginRule in a removed rule's place", x.beginRule(3, 2), true);
        check.due("its head", x.ruleHead(0), 64 + 26);
        for (int k = -1; k <= 6; k++) {
            check.due("its item " + k, x.item(0, k), -1);
        }
        check.due("its first item", x.addItem(1, 5, 5), true);
        check.due("item(0, 0)", x.item(0, 0), 256 + 45);
        check.due("item(0, 1)", x.item(0, 1), -1);
    }

    private static int dueItem(int kind, int a, int b) {
        if (kind == 0 && a >= 0 && a <= 15) {
            return a;
        }
        if (kind == 1 && a >= 0 && a <= 5 && b >= 0 && b <= 5) {
            return 256 + a * 8 + b;
        }
        return kind == 2 ? 512 : -1;
    }

    private static void addItem() {
        for (int kind : Check.ODD_NUMBERS) {
            for (int a : Check.ODD_NUMBERS) {
                for (int b : Check.ODD_NUMBERS) {
                    oneItem(kind, a, b);
                }
            }
        }
        for (int token = 0; token < 16; token++) {
            oneItem(0, token, 0);
        }
    }

    private static void oneItem(int kind, int a, int b) {
        DcgEngine x = Build.grammar("2y: 'a");
        Build.openRule(x, "0x: 'b");
        Build.tokens(x, "c");
        int[] before = Check.state(x);
        int due = dueItem(kind, a, b);
        String call = "addItem(" + kind + ", " + a + ", " + b + ")";
        check.due(call, x.addItem(kind, a, b), due >= 0);
        check.due(call + " item(1, 1)", x.item(1, 1), due);
        if (due < 0) {
            check.same(call, before, Check.state(x));
            return;
        }
        check.due(call + " keeps item(1, 0)", x.item(1, 0), 11);
        check.due(call + " adds one item", x.item(1, 2), -1);
        check.due(call + " stays open", x.ruleHead(1), 64 + 4);
        check.due(call + " keeps rule 0", x.ruleHead(0), 21);
        check.due(call + " keeps item(0, 0)", x.item(0, 0), 10);
        check.due(call + " keeps body 0", x.item(0, 1), -1);
        check.due(call + " keeps the tokens", x.token(0), 12);
        check.due(call + " end", x.endRule() && !x.addItem(kind, a, b), true);
        check.due(call + " when closed adds nothing", x.item(1, 2), -1);
    }

    private static void fullBody() {
        int[][] items = {{0, 15, 9}, {1, 5, 5}, {2, -7, 99}};
        for (int[] last : items) {
            DcgEngine x = Build.grammar("1x: 'a");
            Build.openRule(x, "0x: | | 'a 0x |");
            check.due("sixth item", x.addItem(last[0], last[1], last[2]), true);
            int[] before = Check.state(x);
            for (int[] item : items) {
                check.due("seventh item", x.addItem(item[0], item[1], item[2]), false);
            }
            check.due("wrong seventh item", x.addItem(9, 9, 9), false);
            check.same("a seventh item", before, Check.state(x));
            check.due("the sixth", x.item(1, 5), dueItem(last[0], last[1], last[2]));
            check.due("no seventh", x.item(1, 6), -1);
        }
    }

    private static void noRuleOpen() {
        DcgEngine fresh = new DcgEngine(1, 1);
        int[] before = Check.state(fresh);
        check.due("addItem on a new object", fresh.addItem(0, 0, 0), false);
        check.due("endRule on a new object", fresh.endRule(), false);
        check.due("removeLastRule on a new object", fresh.removeLastRule(), false);
        check.same("a refused call on a new object", before, Check.state(fresh));
        DcgEngine x = Build.compiled("0x: 'a");
        int[] closed = Check.state(x);
        check.due("addItem to a closed rule", x.addItem(0, 0, 0), false);
        check.due("addItem BAR to a closed rule", x.addItem(2, 0, 0), false);
        check.due("endRule twice", x.endRule(), false);
        check.same("a refused call", closed, Check.state(x));
    }

    private static void endRule() {
        DcgEngine x = Build.grammar("5y: 'f 0y |");
        Build.tokens(x, "12");
        check.due("closed head", x.ruleHead(0), 45);
        Build.openRule(x, "4x:");
        check.due("open head", x.ruleHead(1), 64 + 36);
        check.due("endRule on an empty body", x.endRule(), true);
        check.due("head after endRule", x.ruleHead(1), 36);
        check.due("no item", x.item(1, 0), -1);
        check.due("no third rule", x.ruleHead(2), -1);
        check.due("not compiled by endRule", x.prove(4, 0, 0, 0), DcgEngine.REFUSED);
        check.due("kept item 0", x.item(0, 0), 15);
        check.due("kept item 1", x.item(0, 1), 256 + 5);
        check.due("kept item 2", x.item(0, 2), 512);
        check.due("kept tokens", x.tokenCount() == 2 && x.token(0) == 1 && x.token(1) == 2, true);
        check.due("a next rule may begin", x.beginRule(0, 0), true);
    }

    private static void removeLastRule() {
        DcgEngine x = Build.compiled("0x: 'a 1x", "1x: 'b", "0y: 'c");
        Build.tokens(x, "ab");
        check.due("before", x.prove(0, 2, 0, 2), DcgEngine.YES);
        check.due("remove a closed rule", x.removeLastRule(), true);
        check.due("no longer compiled", x.prove(0, 2, 0, 2), DcgEngine.REFUSED);
        check.due("rule 2 is gone", x.ruleHead(2), -1);
        check.due("and so is its item", x.item(2, 0), -1);
        check.due("rule 1 stays", x.ruleHead(1) == 12 && x.item(1, 0) == 11, true);
        check.due("rule 0 stays", x.ruleHead(0) == 4 && x.item(0, 0) == 10 && x.item(0, 1) == 256 + 12, true);
        check.due("the tokens stay", x.tokenCount() == 2 && x.token(1) == 11, true);
        check.due("the rest compiles", x.compile(), DcgEngine.COMPILE_OK);
        check.due("and derives", x.prove(0, 2, 0, 2), DcgEngine.YES);
        Build.openRule(x, "3x: 3x");
        check.due("remove an open rule", x.removeLastRule(), true);
        check.due("no rule is open", x.endRule(), false);
        check.due("the one before stays closed", x.ruleHead(1), 12);
        check.due("nor does it take items", x.addItem(2, 0, 0), false);
        check.due("left cycle is gone", x.onLeftCycle(3), false);
        check.due("remove the rest", x.removeLastRule() && x.removeLastRule(), true);
        check.due("nothing left to remove", x.removeLastRule(), false);
        check.due("no rule 0", x.ruleHead(0), -1);
        check.due("compile without rules", x.compile(), DcgEngine.COMPILE_NO_RULES);
    }

    private static void reading() {
        for (int nt = 0; nt < 6; nt++) {
            for (int arg = 0; arg < 6; arg++) {
                DcgEngine x = new DcgEngine(12, 8);
                x.beginRule(nt, arg);
                check.due("open ruleHead(0)", x.ruleHead(0), 64 + nt * 8 + arg);
                x.addItem(1, nt, arg);
                check.due("item(0, 0) of the open rule", x.item(0, 0), 256 + nt * 8 + arg);
                x.endRule();
                check.due("closed ruleHead(0)", x.ruleHead(0), nt * 8 + arg);
                check.due("item(0, 0) of the closed rule", x.item(0, 0), 256 + nt * 8 + arg);
            }
        }
        DcgEngine x = Build.grammar("0x: 'a 'b", "1x: 'c");
        for (int r : Check.ODD_NUMBERS) {
            check.due("ruleHead(" + r + ")", x.ruleHead(r), r == 0 ? 4 : r == 1 ? 12 : -1);
            for (int k : Check.ODD_NUMBERS) {
                int due = r == 0 && k == 0 ? 10 : r == 0 && k == 1 ? 11 : r == 1 && k == 0 ? 12 : -1;
                check.due("item(" + r + ", " + k + ")", x.item(r, k), due);
            }
        }
    }

    private static void wholeGrammar() {
        DcgEngine x = new DcgEngine(12, 8);
        for (int r = 0; r < 12; r++) {
            x.beginRule(r % 6, (r + 1) % 6);
            for (int k = 0; k < 6; k++) {
                x.addItem(k % 3, (r + k) % 6, (r * k) % 6);
            }
            x.endRule();
        }
        for (int r = 0; r < 12; r++) {
            check.due("ruleHead(" + r + ")", x.ruleHead(r), r % 6 * 8 + (r + 1) % 6);
            for (int k = 0; k < 6; k++) {
                int due = dueItem(k % 3, (r + k) % 6, (r * k) % 6);
                check.due("item(" + r + ", " + k + ")", x.item(r, k), due);
            }
        }
    }

    public static void main(String[] args) {
        construction();
        beginRule();
        newRuleHasNoOldItems();
        addItem();
        fullBody();
        noRuleOpen();
        endRule();
        removeLastRule();
        reading();
        wholeGrammar();
        check.finish();
    }
}
