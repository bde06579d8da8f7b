/** Promise 13: ruleHead. */
public final class Promise13Test extends Check {
    private static DcgEngine withRules(int count) {
        DcgEngine x = new DcgEngine(12, 8);
        for (int r = 0; r < count; r++) {
            x.beginRule(r % 6, 5 - r % 6);
            x.endRule();
        }
        return x;
    }

    /** "ruleHead(r) answers -1 if r is not in 0..(rule count - 1)" */
    static void noSuchRule() {
        for (int count = 0; count <= 12; count++) {
            DcgEngine x = withRules(count);
            for (int r : ODD_NUMBERS) {
                int due = isIn(r, 0, count - 1) ? r % 6 * 8 + 5 - r % 6 : -1;
                answers(x, "ruleHead(" + r + ") of " + count, () -> x.ruleHead(r), due);
            }
            due("ruleHead(" + count + ")", x.ruleHead(count), -1);
            due("ruleHead(" + (count - 1) + ")", x.ruleHead(count - 1) == -1, count == 0);
        }
    }

    /** "including any negative r" */
    static void negativeRule() {
        DcgEngine x = withRules(12);
        DcgEngine open = withRules(11);
        open.beginRule(0, 0);
        for (int r : ODD_NUMBERS) {
            if (r < 0) {
                due("ruleHead(" + r + ")", x.ruleHead(r), -1);
                due("ruleHead(" + r + ") while one is open", open.ruleHead(r), -1);
            }
        }
    }

    /** "and when there are no rules" */
    static void noRules() {
        DcgEngine emptied = withRules(12);
        for (int r = 11; r >= 0; r--) {
            due("removeLastRule()", emptied.removeLastRule(), true);
            due("ruleHead(" + r + ") when removed", emptied.ruleHead(r), -1);
        }
        DcgEngine begunAndRemoved = new DcgEngine(1, 1);
        begunAndRemoved.beginRule(5, 5);
        begunAndRemoved.removeLastRule();
        for (int r : ODD_NUMBERS) {
            due("new, ruleHead(" + r + ")", new DcgEngine(12, 8).ruleHead(r), -1);
            due("emptied, ruleHead(" + r + ")", emptied.ruleHead(r), -1);
            due("begun and removed, ruleHead(" + r + ")", begunAndRemoved.ruleHead(r), -1);
        }
    }

    /** "Otherwise the answer is nt*8 + arg, plus 64 if rule r is open, where (nt, arg) is the head of rule r." */
    static void everyHead() {
        for (int nt = 0; nt <= 5; nt++) {
            for (int arg = 0; arg <= 5; arg++) {
                for (int before = 0; before < 12; before++) {
                    DcgEngine x = withRules(before);
                    x.beginRule(nt, arg);
                    due("open", x.ruleHead(before), 64 + nt * 8 + arg);
                    x.endRule();
                    due("closed", x.ruleHead(before), nt * 8 + arg);
                }
            }
        }
    }

    /** "plus 64 if rule r is open": the last rule alone. */
    static void onlyTheOpenRuleIsMarked() {
        DcgEngine x = withRules(11);
        x.beginRule(5, 5);
        x.addItem(2, 0, 0);
        for (int r = 0; r < 11; r++) {
            due("ruleHead(" + r + ")", x.ruleHead(r), r % 6 * 8 + 5 - r % 6);
        }
        due("ruleHead(11)", x.ruleHead(11), 109);
        x.removeLastRule();
        due("no longer open", x.ruleHead(10), 4 * 8 + 1);
    }

    /** "A closed rule thus gives 0..45 and the open rule 64..109." */
    static void leastAndGreatest() {
        DcgEngine x = new DcgEngine(2, 1);
        x.beginRule(0, 0);
        due("least open", x.ruleHead(0), 64);
        x.endRule();
        due("least closed", x.ruleHead(0), 0);
        x.beginRule(5, 5);
        due("greatest open", x.ruleHead(1), 109);
        x.endRule();
        due("greatest closed", x.ruleHead(1), 45);
    }

    /** "Nothing changes." */
    static void changesNothing() {
        DcgEngine x = Build.compiled("0x: 'a 0x |");
        Build.tokens(x, "aa");
        answers(x, "ruleHead(0)", () -> x.ruleHead(0), 4);
        Build.openRule(x, "1x: 'b");
        answers(x, "ruleHead(1)", () -> x.ruleHead(1), 64 + 12);
        answers(x, "ruleHead(2)", () -> x.ruleHead(2), -1);
        due("the rule is still open", x.endRule(), true);
    }

    public static void main(String[] args) {
        run(Promise13Test.class);
    }
}
