/** Promise 14: item. */
public final class Promise14Test extends Check {
    /** Rule r has r % 7 items, item k being token (r + k) % 16. */
    private static DcgEngine withRules(int count) {
        DcgEngine x = new DcgEngine(12, 8);
        for (int r = 0; r < count; r++) {
            x.beginRule(0, 4);
            for (int k = 0; k < r % 7; k++) {
                x.addItem(0, (r + k) % 16, 0);
            }
            x.endRule();
        }
        return x;
    }

    /** "item(r, k) answers -1 if r is not a rule index" */
    static void noSuchRule() {
        for (int count = 0; count <= 12; count++) {
            DcgEngine x = withRules(count);
            for (int r : ODD_NUMBERS) {
                for (int k = -1; k <= 6 && !isIn(r, 0, count - 1); k++) {
                    due("item(" + r + ", " + k + ") of " + count, x.item(r, k), -1);
                }
            }
            due("item(" + count + ", 0)", x.item(count, 0), -1);
        }
    }

    /** "item(r, k) answers -1 if r is not a rule index": nor one of a removed rule. */
    static void removedRule() {
        DcgEngine x = Build.grammar("0x: 'a 'b 'c 'd 'e 'f", "1x: 'a 'b 'c 'd 'e 'f");
        x.removeLastRule();
        for (int k = 0; k < 6; k++) {
            due("item(0, " + k + ")", x.item(0, k), 10 + k);
            due("item(1, " + k + ")", x.item(1, k), -1);
        }
        x.removeLastRule();
        for (int k = 0; k < 6; k++) {
            due("item(0, " + k + ") of none", x.item(0, k), -1);
        }
    }

    /** "or k is not in 0..(body length of r - 1)" */
    static void noSuchItem() {
        DcgEngine x = withRules(12);
        for (int r = 0; r < 12; r++) {
            for (int k : ODD_NUMBERS) {
                int due = isIn(k, 0, r % 7 - 1) ? (r + k) % 16 : -1;
                due("item(" + r + ", " + k + ")", x.item(r, k), due);
            }
            due("item(" + r + ", " + r % 7 + ")", x.item(r, r % 7), -1);
            due("item(" + r + ", -1)", x.item(r, -1), -1);
        }
    }

    /** "item(r, k) answers -1": for both reasons, and for any int. */
    static void anyInt() {
        DcgEngine x = withRules(12);
        int[] before = everything(x);
        for (int r : ODD_NUMBERS) {
            for (int k : ODD_NUMBERS) {
                boolean there = isIn(r, 0, 11) && isIn(k, 0, r % 7 - 1);
                due("item(" + r + ", " + k + ")", x.item(r, k), there ? (r + k) % 16 : -1);
            }
        }
        same("item", before, everything(x));
    }

    /** "Otherwise it encodes item k of rule r, counting from 0 in order of appending" */
    static void everyPlace() {
        DcgEngine x = new DcgEngine(12, 8);
        for (int r = 0; r < 12; r++) {
            x.beginRule(r % 6, (r + 1) % 6);
            for (int k = 0; k < 6; k++) {
                x.addItem((r + k) % 3, (r + k) % 6, r * k % 6);
            }
            x.endRule();
        }
        for (int r = 0; r < 12; r++) {
            for (int k = 0; k < 6; k++) {
                int symbol = (r + k) % 6;
                int[] due = {symbol, 256 + symbol * 8 + r * k % 6, 512};
                due("item(" + r + ", " + k + ")", x.item(r, k), due[(r + k) % 3]);
            }
        }
    }

    private static void encoded(int kind, int a, int b, int due) {
        DcgEngine x = new DcgEngine(1, 1);
        x.beginRule(0, 0);
        x.addItem(kind, a, b);
        due("open: item of " + kind + ", " + a + ", " + b, x.item(0, 0), due);
        x.endRule();
        due("closed: item of " + kind + ", " + a + ", " + b, x.item(0, 0), due);
    }

    /** "TERMINAL: the token (0..15);" */
    static void terminal() {
        for (int token = 0; token <= 15; token++) {
            encoded(DcgEngine.ITEM_TERMINAL, token, 0, token);
            encoded(DcgEngine.ITEM_TERMINAL, token, 5, token);
            encoded(DcgEngine.ITEM_TERMINAL, token, Integer.MIN_VALUE, token);
        }
    }

    /** "NONTERMINAL: 256 + nt*8 + arg;" */
    static void nonterminal() {
        for (int nt = 0; nt <= 5; nt++) {
            for (int arg = 0; arg <= 5; arg++) {
                encoded(DcgEngine.ITEM_NONTERMINAL, nt, arg, 256 + nt * 8 + arg);
            }
        }
    }

    /** "BAR: 512." */
    static void bar() {
        for (int odd : ODD_NUMBERS) {
            encoded(DcgEngine.ITEM_BAR, odd, 0, 512);
            encoded(DcgEngine.ITEM_BAR, 0, odd, 512);
            encoded(DcgEngine.ITEM_BAR, odd, odd, 512);
        }
    }

    /** "Items of the open rule may be read as well." */
    static void openRule() {
        DcgEngine x = Build.grammar("0x: 'f");
        x.beginRule(1, 1);
        due("item(1, 0) of an empty body", x.item(1, 0), -1);
        for (int k = 0; k < 6; k++) {
            due("addItem", x.addItem(0, k + 1, 0), true);
            due("item(1, " + k + ")", x.item(1, k), k + 1);
            due("item(1, " + (k + 1) + ")", x.item(1, k + 1), -1);
        }
        due("item(0, 0)", x.item(0, 0), 15);
    }

    /** "Nothing changes." */
    static void changesNothing() {
        DcgEngine x = Build.compiled("0x: 'a 0x |");
        Build.tokens(x, "aa");
        answers(x, "item(0, 1)", () -> x.item(0, 1), 256 + 4);
        Build.openRule(x, "1x: 'b");
        answers(x, "item(1, 0)", () -> x.item(1, 0), 11);
        answers(x, "item(1, 1)", () -> x.item(1, 1), -1);
        due("the rule is still open", x.endRule(), true);
    }

    public static void main(String[] args) {
        run(Promise14Test.class);
    }
}
