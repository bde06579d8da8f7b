/** Promise 3: addItem. */
public final class Promise03Test extends Check {
    private static final int[][] GOOD_ITEMS = {{0, 0, 0}, {0, 15, 9}, {1, 0, 0}, {1, 5, 5}, {2, 0, 0}, {2, -7, 99}};

    private static void refusedItem(DcgEngine x, int kind, int a, int b) {
        refused(x, "addItem(" + kind + ", " + a + ", " + b + ")", () -> x.addItem(kind, a, b));
    }

    /** A closed rule, tokens, and an open rule with one item. */
    private static DcgEngine withOpenRule() {
        DcgEngine x = Build.grammar("2y: 'a");
        Build.openRule(x, "0x: 'b");
        Build.tokens(x, "cdcdcdcd");
        return x;
    }

    private static void taken(int kind, int a, int b, int due) {
        String call = "addItem(" + kind + ", " + a + ", " + b + ")";
        DcgEngine x = withOpenRule();
        due(call, x.addItem(kind, a, b), true);
        due(call + ", item(1, 1)", x.item(1, 1), due);
        due(call + ", body length", bodyLength(x, 1), 2);
    }

    /** "For kind ITEM_TERMINAL, a is the token and b is ignored." */
    static void terminalTakesAnyB() {
        for (int token = 0; token <= 15; token++) {
            for (int b : ODD_NUMBERS) {
                taken(DcgEngine.ITEM_TERMINAL, token, b, token);
            }
        }
    }

    /** "For kind ITEM_NONTERMINAL, a is the nonterminal and b is the argument code." */
    static void nonterminalTakesEveryPair() {
        for (int nt = 0; nt <= 5; nt++) {
            for (int arg = 0; arg <= 5; arg++) {
                taken(DcgEngine.ITEM_NONTERMINAL, nt, arg, 256 + nt * 8 + arg);
            }
        }
    }

    /** "For kind ITEM_BAR, a and b are ignored." */
    static void barTakesAnyAAndB() {
        for (int a : ODD_NUMBERS) {
            for (int b : ODD_NUMBERS) {
                taken(DcgEngine.ITEM_BAR, a, b, 512);
            }
        }
    }

    /** "1. no rule is open;" */
    static void refusedWhileNoRuleIsOpen() {
        DcgEngine closed = Build.compiled("0x: 'a");
        Build.tokens(closed, "aaaaaaaa");
        DcgEngine removed = Build.grammar("0x: 'a");
        Build.openRule(removed, "1x: 'a");
        removed.removeLastRule();
        DcgEngine full = Build.grammar("0x: 'a 'b 'c 'd 'e 'f");
        for (DcgEngine x : new DcgEngine[] {new DcgEngine(12, 8), closed, removed, full}) {
            for (int[] item : GOOD_ITEMS) {
                refusedItem(x, item[0], item[1], item[2]);
            }
            refusedItem(x, 3, 0, 0);
            refusedItem(x, 0, 16, 0);
            refusedItem(x, 1, 6, 0);
        }
        due("still compiled", closed.prove(0, 0, 0, 1), DcgEngine.YES);
    }

    /** "2. the body already has MAX_BODY items;" */
    static void refusedWhenTheBodyIsFull() {
        for (int[] sixth : GOOD_ITEMS) {
            DcgEngine x = Build.grammar("1x: 'a");
            Build.openRule(x, "0x: | | 'a 0x |");
            Build.tokens(x, "01234567");
            due("sixth item", x.addItem(sixth[0], sixth[1], sixth[2]), true);
            due("body length", bodyLength(x, 1), 6);
            for (int[] seventh : GOOD_ITEMS) {
                refusedItem(x, seventh[0], seventh[1], seventh[2]);
            }
            refusedItem(x, 3, 0, 0);
            refusedItem(x, 0, 16, 0);
            refusedItem(x, 1, 6, 0);
            due("it may still be closed", x.endRule(), true);
        }
    }

    /** "2. the body already has MAX_BODY items;": in every rule, and not sooner. */
    static void everyBodyTakesSixItems() {
        DcgEngine x = new DcgEngine(12, 8);
        for (int r = 0; r < 12; r++) {
            x.beginRule(r % 6, 4);
            for (int k = 0; k < 6; k++) {
                due("rule " + r + ", item " + k, x.addItem(0, (r + k) % 16, 0), true);
            }
            refusedItem(x, 0, 0, 0);
            x.endRule();
        }
        for (int r = 0; r < 12; r++) {
            for (int k = 0; k < 6; k++) {
                due("item(" + r + ", " + k + ")", x.item(r, k), (r + k) % 16);
            }
        }
    }

    /** "3. kind is not 0..2;" */
    static void refusedForWrongKind() {
        for (int kind : ODD_NUMBERS) {
            for (int a = 0; a <= 15 && !isIn(kind, 0, 2); a++) {
                refusedItem(withOpenRule(), kind, a, 0);
                refusedItem(withOpenRule(), kind, a % 6, 5);
            }
        }
    }

    /** "4. for TERMINAL, a is not in 0..15;" */
    static void refusedForWrongToken() {
        for (int a : ODD_NUMBERS) {
            for (int b = -1; b <= 6 && !isIn(a, 0, 15); b++) {
                refusedItem(withOpenRule(), DcgEngine.ITEM_TERMINAL, a, b);
            }
        }
    }

    /** "5. for NONTERMINAL, a is not in 0..5" */
    static void refusedForWrongNonterminal() {
        for (int a : ODD_NUMBERS) {
            for (int b = 0; b <= 5 && !isIn(a, 0, 5); b++) {
                refusedItem(withOpenRule(), DcgEngine.ITEM_NONTERMINAL, a, b);
            }
        }
    }

    /** "or b is not in 0..5." */
    static void refusedForWrongArgument() {
        for (int b : ODD_NUMBERS) {
            for (int a = 0; a <= 5 && !isIn(b, 0, 5); a++) {
                refusedItem(withOpenRule(), DcgEngine.ITEM_NONTERMINAL, a, b);
            }
        }
    }

    private static boolean isItem(int kind, int a, int b) {
        boolean terminal = kind == 0 && isIn(a, 0, 15);
        boolean nonterminal = kind == 1 && isIn(a, 0, 5) && isIn(b, 0, 5);
        return terminal || nonterminal || kind == 2;
    }

    /** "The conditions, in this order; the first that holds refuses the call" */
    static void refusedForSeveralReasons() {
        DcgEngine x = withOpenRule();
        int[] before = everything(x);
        for (int kind : ODD_NUMBERS) {
            for (int a : ODD_NUMBERS) {
                for (int b : ODD_NUMBERS) {
                    if (!isItem(kind, a, b)) {
                        String call = "addItem(" + kind + ", " + a + ", " + b + ")";
                        due(call, x.addItem(kind, a, b), false);
                        due(call + ", item(1, 1)", x.item(1, 1), -1);
                    }
                }
            }
        }
        same("none of them", before, everything(x));
    }

    /** "Otherwise the item is appended at the end of the open rule's body (its body length grows by one)" */
    static void itemGoesToTheEnd() {
        DcgEngine x = Build.grammar("1x: 'a");
        x.beginRule(0, 0);
        int[] due = {7, 256 + 19, 512, 512, 256 + 44, 15};
        int[][] items = {{0, 7, 0}, {1, 2, 3}, {2, 0, 0}, {2, 0, 0}, {1, 5, 4}, {0, 15, 0}};
        for (int n = 0; n < 6; n++) {
            due("item " + n, x.addItem(items[n][0], items[n][1], items[n][2]), true);
            due("body length", bodyLength(x, 1), n + 1);
            for (int k = 0; k <= n; k++) {
                due("item(1, " + k + ") of " + n, x.item(1, k), due[k]);
            }
        }
    }

    /** "The rule stays open; other rules, the head, COMPILED and the tokens do not change." */
    static void nothingElseChanges() {
        DcgEngine x = Build.compiled("2y: 'a 'b |", "3x: 2x");
        Build.tokens(x, "cdcdcdcd");
        Build.openRule(x, "0x:");
        int[] string = tokens(x);
        for (int k = 0; k < 6; k++) {
            int[] before = rules(x);
            due("addItem", x.addItem(k % 3, k, k), true);
            due("the head, still open", x.ruleHead(2), OPEN_MARK + 4);
            due("COMPILED", isCompiled(x), false);
            same("the tokens: addItem", string, tokens(x));
            // The new item alone is another one now.
            int[] after = rules(x);
            after[headPlace(2) + 2 + k] = -1;
            same("the rules: addItem", before, after);
        }
        due("it may be closed", x.endRule(), true);
        due("and takes no more", x.addItem(2, 0, 0), false);
    }

    /** "A BAR may be appended at any place, including first, last, or right after another BAR, giving empty alternatives." */
    static void barAtAnyPlace() {
        DcgEngine x = Build.grammar();
        for (String body : new String[] {"| 'a", "'a |", "'a | | 'b", "|", "| | | | | |", "| 'a | | 1x |"}) {
            Build.openRule(x, "0x: " + body);
            due(body + ": closed", x.endRule(), true);
            due(body + ": compiled", x.compile(), DcgEngine.COMPILE_OK);
            Build.tokens(x, "c");
            due(body + ": its empty alternative", x.endMask(0, 2, 0), 1);
            due(body + ": its empty alternative at the end", x.endMask(0, 2, 1), 2);
            x.removeLastRule();
        }
        Build.openRule(x, "0x: 'a | 'b");
        x.endRule();
        x.compile();
        due("no empty alternative", x.endMask(0, 2, 0), 0);
    }

    public static void main(String[] args) {
        run(Promise03Test.class);
    }
}
