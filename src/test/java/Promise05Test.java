import java.util.Arrays;

/** Promise 5: removeLastRule. */
public final class Promise05Test extends Check {
    private static void refusedRemoval(DcgEngine x) {
        refused(x, "removeLastRule()", x::removeLastRule);
    }

    /** "It is refused (false, nothing changes) if there are no rules." */
    static void refusedWithoutRules() {
        refusedRemoval(new DcgEngine(12, 8));
        refusedRemoval(new DcgEngine(Integer.MIN_VALUE, Integer.MIN_VALUE));
        DcgEngine x = new DcgEngine(12, 8);
        Build.tokens(x, "12345678");
        refusedRemoval(x);
        for (int rules = 1; rules <= 12; rules++) {
            for (int r = 0; r < rules; r++) {
                x.beginRule(0, 0);
                x.endRule();
            }
            for (int r = 0; r < rules; r++) {
                due("removeLastRule(), " + r + " of " + rules, x.removeLastRule(), true);
            }
            refusedRemoval(x);
            refusedRemoval(x);
        }
        due("the first rule begins at index 0", x.beginRule(3, 3) && x.ruleHead(0) == OPEN_MARK + 27, true);
    }

    /** "removeLastRule() deletes the last rule, whether it is open or closed." */
    static void deletesAnOpenRule() {
        DcgEngine x = Build.compiled("0x: 'a", "1x: 'b");
        int[] before = rules(x);
        for (String rule : new String[] {"2x:", "2x: 'a 1x", "2x: 2x", "2x: | | | | | |"}) {
            Build.openRule(x, rule);
            due(rule + " removed", x.removeLastRule(), true);
            same("the other rules: begun and removed", before, rules(x));
        }
    }

    /** "removeLastRule() deletes the last rule, whether it is open or closed." */
    static void deletesAClosedRule() {
        DcgEngine x = Build.compiled("0x: 'a", "1x: 'b");
        int[] before = rules(x);
        for (String rule : new String[] {"2x:", "2x: 'a 1x", "2x: 2x", "2x: | | | | | |"}) {
            Build.openRule(x, rule);
            x.endRule();
            due(rule + " removed", x.removeLastRule(), true);
            same("the other rules: closed and removed", before, rules(x));
        }
    }

    /** "Otherwise the rule is gone (the rule count drops by one)" */
    static void countDropsByOne() {
        DcgEngine x = new DcgEngine(12, 8);
        for (int r = 0; r < 12; r++) {
            Build.openRule(x, r % 6 + "x: 'a 0x |");
            x.endRule();
        }
        for (int left = 11; left >= 0; left--) {
            due("removeLastRule()", x.removeLastRule(), true);
            due("rule count", ruleCount(x), left);
            due("its head", x.ruleHead(left), -1);
            due("its item", x.item(left, 0), -1);
        }
    }

    /** "no rule is open" */
    static void noRuleIsOpenThen() {
        DcgEngine x = Build.grammar("0x: 'a");
        Build.openRule(x, "1x: 'b");
        due("removeLastRule()", x.removeLastRule(), true);
        due("endRule()", x.endRule(), false);
        due("addItem(2, 0, 0)", x.addItem(2, 0, 0), false);
        due("rule 0 stays closed", x.ruleHead(0), 4);
        due("compile()", x.compile(), DcgEngine.COMPILE_OK);
        due("beginRule(1, 4)", x.beginRule(1, 4), true);
        due("the only rule but one, open", x.removeLastRule() && x.removeLastRule(), true);
        due("no rules", x.compile(), DcgEngine.COMPILE_NO_RULES);
    }

    /** "COMPILED becomes false, and the answer is true." */
    static void clearsCompiled() {
        DcgEngine x = Build.compiled("0x: 'a", "1x: 'b");
        Build.tokens(x, "a");
        due("compiled", x.prove(0, 2, 0, 1), DcgEngine.YES);
        due("removeLastRule()", x.removeLastRule(), true);
        due("prove", x.prove(0, 2, 0, 1), DcgEngine.REFUSED);
        due("answerMask", x.answerMask(0), DcgEngine.REFUSED);
        due("endMask", x.endMask(0, 2, 0), DcgEngine.REFUSED);
        due("firstRule", x.firstRule(0, 2, 0, 1), DcgEngine.REFUSED);
        due("compile()", x.compile(), DcgEngine.COMPILE_OK);
        due("the only one removed", x.removeLastRule(), true);
        due("COMPILED", isCompiled(x), false);
    }

    /** "The remaining rules keep their indices, heads and bodies; the tokens do not change." */
    static void remainingRulesAndTokensStay() {
        DcgEngine x = new DcgEngine(12, 8);
        Build.tokens(x, "89abcdef");
        int[] string = tokens(x);
        int[][] before = new int[12][];
        for (int r = 0; r < 12; r++) {
            before[r] = rules(x);
            Build.openRule(x, r % 6 + "" + r % 4 + ": 'a " + r % 5 + "y | 'b | 0x");
            x.endRule();
        }
        for (int left = 11; left >= 0; left--) {
            due("removeLastRule()", x.removeLastRule(), true);
            due("the rules left: " + left, Arrays.equals(before[left], rules(x)), true);
            same("the tokens: removeLastRule", string, tokens(x));
        }
    }

    /** "Otherwise the rule is gone": it derives nothing, and its items are in no cycle. */
    static void removedRuleDerivesNothing() {
        DcgEngine x = Build.compiled("0x: 'a", "0x: 'b", "1x:");
        Build.tokens(x, "b");
        due("before", x.answerMask(0), 15);
        x.removeLastRule();
        x.removeLastRule();
        x.compile();
        due("after", x.answerMask(0), 0);
        due("nor any other", x.endMask(1, 0, 0), 0);
        Build.openRule(x, "3x: 3x");
        due("cycle", leftCycles(x), 8);
        x.removeLastRule();
        due("no cycle", leftCycles(x), 0);
    }

    /** "Otherwise the rule is gone": whatever it derived, at every place of the longest string. */
    static void removedRuleLeavesNoSpan() {
        for (int nt = 0; nt <= 5; nt++) {
            DcgEngine x = Build.compiled((nt + 1) % 6 + "x: 'b", nt + "x: 'a " + nt + "x |");
            Build.tokens(x, "aaaaaaaa");
            for (int from = 0; from <= 8; from++) {
                due("before, from " + from, x.endMask(nt, 3, from), 511 >> from << from);
            }
            x.removeLastRule();
            x.compile();
            for (int v = 0; v <= 3; v++) {
                for (int from = 0; from <= 8; from++) {
                    due("after, from " + from, x.endMask(nt, v, from), 0);
                }
            }
        }
    }

    public static void main(String[] args) {
        run(Promise05Test.class);
    }
}
