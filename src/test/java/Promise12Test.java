/** Promise 12: onLeftCycle. */
public final class Promise12Test extends Check {
    /** The set of nonterminals that is due on a left cycle, bit m for nonterminal m. */
    private static void cycles(int due, String... rules) {
        DcgEngine x = Build.grammar(rules);
        due(String.join("; ", rules), leftCycles(x), due);
        int answer = due == 0 ? DcgEngine.COMPILE_OK : DcgEngine.COMPILE_LEFT_RECURSIVE;
        due(String.join("; ", rules) + ": compile()", x.compile(), answer);
        due(String.join("; ", rules) + ", after compile()", leftCycles(x), due);
    }

    /** "onLeftCycle(nt) is true exactly when nt is in 0..5 and nt is on a left cycle" */
    static void trueOnACycle() {
        cycles(0b000001, "0x: 0x");
        cycles(0b000001, "0x: 0x 'a");
        cycles(0b000011, "0x: 1x", "1x: 0x");
        cycles(0b011111, "0x: 1x", "1x: 2x", "2x: 3x", "3x: 4x", "4x: 0x");
        cycles(0b111111, "0x: 1x", "1x: 2x", "2x: 3x", "3x: 4x", "4x: 5x", "5x: 0x");
        cycles(0b111111, "5x: 4x", "4x: 3x", "3x: 2x", "2x: 1x", "1x: 0x", "0x: 5x");
        cycles(0b110011, "0x: 1x", "1x: 0x", "4x: 5x", "5x: 4x", "2x: 0x", "3x: 4x");
        for (int nt = 0; nt <= 5; nt++) {
            cycles(1 << nt, nt + "x: 'a | " + nt + "x");
        }
    }

    /** "true exactly when": not for one that only leads to a cycle, or is only led to. */
    static void falseBesideACycle() {
        cycles(0b000011, "2x: 0x", "0x: 1x 3x", "1x: 0x | 3x", "3x: 'a");
        cycles(0b111100, "0x: 1x", "1x: 2x", "2x: 3x", "3x: 4x", "4x: 5x", "5x: 2x");
        cycles(0b111000, "0x: 1x", "1x: 2x", "2x: 3x", "3x: 4x", "4x: 5x", "5x: 3x");
        cycles(0b100000, "0x: 1x", "1x: 2x", "2x: 3x", "3x: 4x", "4x: 5x", "5x: 5x");
        cycles(0b000001, "0x: 0x | 1x", "1x: 2x");
    }

    /** "true exactly when": not without a cycle. */
    static void falseWithoutACycle() {
        due("no rules", leftCycles(new DcgEngine(12, 8)), 0);
        cycles(0, "0x:");
        cycles(0, "0x: 'a 0x");
        cycles(0, "0x: 1x", "1x: 2x", "2x: 3x", "3x: 4x", "4x: 5x", "5x: 'a 0x");
        cycles(0, "0x: 'a | 'b 0x | 1x", "0x: 1x 0x");
        cycles(0, "0x: 1x 2x 3x 4x 5x", "1x: 2x 3x 4x 5x", "2x: 3x 4x 5x", "3x: 4x 5x", "4x: 5x", "5x:");
    }

    /** "For nt outside 0..5 it is false." */
    static void falseOutsideTheRange() {
        DcgEngine x = Build.grammar("0x: 0x", "1x: 1x", "2x: 2x", "3x: 3x", "4x: 4x", "5x: 5x");
        DcgEngine fresh = new DcgEngine(1, 1);
        for (int nt : ODD_NUMBERS) {
            int all = isIn(nt, 0, 5) ? 1 : 0;
            answers(x, "onLeftCycle(" + nt + ")", () -> x.onLeftCycle(nt) ? 1 : 0, all);
            answers(fresh, "onLeftCycle(" + nt + ") on a new object", () -> fresh.onLeftCycle(nt) ? 1 : 0, 0);
        }
    }

    /** "of the current stored rules, including the open rule's items so far" */
    static void openRuleCounts() {
        DcgEngine x = Build.grammar();
        Build.openRule(x, "0x:");
        due("open and empty", leftCycles(x), 0);
        Build.item(x, "1x");
        due("1 has no rule", leftCycles(x), 0);
        Build.item(x, "0x");
        due("still not", leftCycles(x), 0);
        Build.item(x, "|");
        due("nor by a BAR", leftCycles(x), 0);
        Build.item(x, "0y");
        due("but by what follows", leftCycles(x), 1);
        Build.item(x, "'a");
        due("whatever comes then", leftCycles(x), 1);
    }

    /** "of the current stored rules": not of removed ones. */
    static void removedRulesDoNotCount() {
        DcgEngine x = Build.grammar("0x: 0x 0x", "1x: 1x |");
        due("both", leftCycles(x), 3);
        x.removeLastRule();
        due("one", leftCycles(x), 1);
        x.removeLastRule();
        due("none", leftCycles(x), 0);
        Build.openRule(x, "0x:");
        due("an empty body over the old items", leftCycles(x), 0);
        Build.item(x, "'a");
        due("a token over the old items", leftCycles(x), 0);
        x.endRule();
        due("compile", x.compile(), DcgEngine.COMPILE_OK);
    }

    /** "of the current stored rules": twelve full ones, and every place in them. */
    static void fullGrammar() {
        for (int r = 0; r < 12; r++) {
            for (int k = 0; k < 6; k++) {
                DcgEngine x = new DcgEngine(12, 8);
                for (int rule = 0; rule < 12; rule++) {
                    x.beginRule(rule % 5, 4);
                    for (int item = 0; item < 6; item++) {
                        boolean recursive = rule == r && item == k;
                        x.addItem(recursive ? 1 : 2, rule % 5, 4);
                    }
                    x.endRule();
                }
                due("item " + k + " of rule " + r, leftCycles(x), 1 << r % 5);
            }
        }
    }

    /** "COMPILED plays no part, and the answer may be asked at any time, with or without an open rule." */
    static void askedAtAnyTime() {
        DcgEngine x = Build.grammar("0x: 1x 0x");
        due("not compiled", leftCycles(x), 0);
        due("compile()", x.compile(), DcgEngine.COMPILE_OK);
        due("compiled", leftCycles(x), 0);
        x.beginRule(1, 0);
        due("with an open rule", leftCycles(x), 1);
        due("compile()", x.compile(), DcgEngine.COMPILE_RULE_OPEN);
        due("still", leftCycles(x), 1);
        x.endRule();
        due("closed", leftCycles(x), 1);
        due("compile()", x.compile(), DcgEngine.COMPILE_LEFT_RECURSIVE);
        due("still", leftCycles(x), 1);
        Build.tokens(x, "abc");
        due("with tokens", leftCycles(x), 1);
        x.removeLastRule();
        due("removed", leftCycles(x), 0);
    }

    /** "Nothing changes." */
    static void changesNothing() {
        DcgEngine compiled = Build.compiled("0x: 'a 0x |");
        Build.tokens(compiled, "aa");
        answers(compiled, "onLeftCycle(0)", () -> compiled.onLeftCycle(0) ? 1 : 0, 0);
        DcgEngine open = Build.grammar("1x: 1x");
        Build.openRule(open, "0x: 0x");
        answers(open, "onLeftCycle(0)", () -> open.onLeftCycle(0) ? 1 : 0, 1);
        due("the rule is still open", open.endRule(), true);
    }

    public static void main(String[] args) {
        run(Promise12Test.class);
    }
}
