/** Promises 6 and 12: compile and onLeftCycle. */
public final class CompileTest {
    private static final Check check = new Check();

    /** The set of nonterminals on a left cycle, bit m for nonterminal m. */
    private static void cycle(int due, String... rules) {
        DcgEngine x = Build.grammar(rules);
        String grammar = String.join("; ", rules);
        for (int nt = 0; nt < 6; nt++) {
            check.due(grammar + ": onLeftCycle(" + nt + ")", x.onLeftCycle(nt), (due >> nt & 1) == 1);
        }
        int[] before = Check.state(x);
        int answer = due == 0 ? DcgEngine.COMPILE_OK : DcgEngine.COMPILE_LEFT_RECURSIVE;
        check.due(grammar + ": compile()", x.compile(), answer);
        if (due != 0) {
            check.same(grammar + ": a refused compile", before, Check.state(x));
        }
        check.due(grammar + ": compile() again", x.compile(), answer);
        check.due(grammar + ": compiled", x.answerMask(0) != DcgEngine.REFUSED, due == 0);
    }

    private static void leftCycles() {
        cycle(0b000000, "0x: 'a 0x");
        cycle(0b000001, "0x: 0x 'a");
        cycle(0b000001, "0x: 0x");
        cycle(0b000001, "0x: 'a | 'b 1x | 0x");
        cycle(0b000000, "0x: 'a | 'b 0x | 1x", "0x: 1x 0x");
        cycle(0b000011, "0x: 1x", "1x: 0x");
        // 2 only leads to a cycle, and 3 is only led to.
        cycle(0b000011, "2x: 0x", "0x: 1x 3x", "1x: 0x | 3x", "3x: 'a");
        cycle(0b111111, "0x: 1x", "1x: 2x", "2x: 3x", "3x: 4x", "4x: 5x", "5x: 0x");
        cycle(0b111111, "5x: 4x", "4x: 3x", "3x: 2x", "2x: 1x", "1x: 0x", "0x: 5x");
        cycle(0b000000, "0x: 1x", "1x: 2x", "2x: 3x", "3x: 4x", "4x: 5x", "5x: 'a 0x");
        cycle(0b011111, "0x: 1x", "1x: 2x", "2x: 3x", "3x: 4x", "4x: 0x");
        cycle(0b111100, "0x: 1x", "1x: 2x", "2x: 3x", "3x: 4x", "4x: 5x", "5x: 2x");
        cycle(0b111000, "0x: 1x", "1x: 2x", "2x: 3x", "3x: 4x", "4x: 5x", "5x: 3x");
        for (int nt = 0; nt < 6; nt++) {
            cycle(1 << nt, nt + "x: 'a | " + nt + "x");
        }
        cycle(0b110011, "0x: 1x", "1x: 0x", "4x: 5x", "5x: 4x", "2x: 0x", "3x: 4x");
    }

    private static void nullableBefore() {
        cycle(0b000001, "0x: 1x 0x", "1x:");
        cycle(0b000000, "0x: 1x 0x", "1x: 'a");
        cycle(0b000000, "1x: 0x 1x", "0x: 'a");
        // No rule, so nothing is nullable there.
        cycle(0b000000, "0x: 1x 0x");
        cycle(0b000001, "0x: 1x 0x", "1x: 'a |");
        cycle(0b000001, "0x: 1x 0x", "1x: | 'a");
        cycle(0b000001, "0x: 1x 0x", "1x: 'a | | 'b");
        cycle(0b000000, "0x: 1x 0x", "1x: 'a | 'b");
        cycle(0b000001, "0x: 1x 2x 0x", "1x:", "2x: 1x 1x");
        cycle(0b000000, "0x: 1x 'a 0x", "1x:");
        cycle(0b000000, "0x: 1x 2x 0x", "1x:", "2x: 1x 'a");
        // The nullable set must be whole, whatever the order of the rules.
        cycle(0b000001, "0x: 1x 0x", "1x: 2x", "2x: 3x", "3x: 4x", "4x: 5x", "5x:");
        cycle(0b000001, "5x:", "4x: 5x", "3x: 4x", "2x: 3x", "1x: 2x", "0x: 1x 0x");
        cycle(0b000010, "1x: 2x 1x", "2x: 3x 4x", "3x: 4x 5x", "4x: 5x 5x", "5x: 'a |");
        // A nonterminal that may vanish through itself alone does not vanish.
        cycle(0b000010, "0x: 1x 0x", "1x: 1x");
        cycle(0b000110, "0x: 1x 0x", "1x: 2x", "2x: 1x");
        cycle(0b000011, "0x: 1x 0x", "1x: 1x |");
        // A BAR starts again, with nothing before the place.
        cycle(0b000001, "0x: 'a 1x | 0x");
        cycle(0b000000, "0x: 1x | 'a 0x", "1x:");
        cycle(0b000001, "0x: | 0x");
        cycle(0b000100, "2x: 'a | | 3x 2x", "3x: 'b 'c |");
    }

    private static void argumentsPlayNoPart() {
        cycle(0b000001, "00: 01 'a");
        cycle(0b000011, "00: 11", "12: 03");
        cycle(0b000001, "00: 11 00", "12:");
    }

    private static void openRuleCounts() {
        DcgEngine x = new DcgEngine(12, 8);
        check.due("new object", x.onLeftCycle(0), false);
        x.beginRule(0, 4);
        check.due("open and empty", x.onLeftCycle(0), false);
        x.addItem(1, 1, 4);
        check.due("1 is not nullable", x.onLeftCycle(0), false);
        x.addItem(1, 0, 4);
        check.due("still not", x.onLeftCycle(0), false);
        x.endRule();
        x.beginRule(1, 0);
        check.due("an open rule's empty body is an empty alternative", x.onLeftCycle(0), true);
        x.addItem(0, 3, 0);
        check.due("with an item it is not", x.onLeftCycle(0), false);
        x.addItem(2, 0, 0);
        check.due("a last BAR gives one again", x.onLeftCycle(0), true);
        check.due("1 is on none", x.onLeftCycle(1), false);
        check.due("compile while a rule is open", x.compile(), DcgEngine.COMPILE_RULE_OPEN);
        x.endRule();
        check.due("compile", x.compile(), DcgEngine.COMPILE_LEFT_RECURSIVE);
        check.due("asked without being compiled", x.onLeftCycle(0), true);
        x.removeLastRule();
        check.due("gone with the rule", x.onLeftCycle(0), false);
        for (int nt : Check.ODD_NUMBERS) {
            DcgEngine all = Build.grammar("0x: 0x", "1x: 1x", "2x: 2x", "3x: 3x", "4x: 4x", "5x: 5x");
            check.due("onLeftCycle(" + nt + ")", all.onLeftCycle(nt), nt >= 0 && nt <= 5);
        }
    }

    private static void oldItemsDoNotCount() {
        DcgEngine x = Build.grammar("0x: 0x 0x", "1x: 1x |");
        check.due("both", x.onLeftCycle(0) && x.onLeftCycle(1), true);
        x.removeLastRule();
        x.removeLastRule();
        check.due("no rules", x.onLeftCycle(0) || x.onLeftCycle(1), false);
        Build.openRule(x, "0x:");
        check.due("an empty body over the old items", x.onLeftCycle(0), false);
        Build.item(x, "'a");
        check.due("a token over the old items", x.onLeftCycle(0), false);
        x.endRule();
        check.due("compile", x.compile(), DcgEngine.COMPILE_OK);
    }

    private static void fullGrammar() {
        DcgEngine x = new DcgEngine(12, 8);
        for (int r = 0; r < 12; r++) {
            Build.openRule(x, r % 6 + "x: | 'a 0x 1x | " + r % 6 + "x");
            if (r < 11) {
                x.endRule();
            }
        }
        for (int nt = 0; nt < 6; nt++) {
            check.due("full and open: onLeftCycle(" + nt + ")", x.onLeftCycle(nt), true);
        }
        check.due("full and open", x.compile(), DcgEngine.COMPILE_RULE_OPEN);
        x.endRule();
        check.due("full", x.compile(), DcgEngine.COMPILE_LEFT_RECURSIVE);
    }

    private static void order() {
        DcgEngine x = new DcgEngine(12, 8);
        int[] fresh = Check.state(x);
        check.due("no rules", x.compile(), DcgEngine.COMPILE_NO_RULES);
        check.same("a refused compile", fresh, Check.state(x));
        Build.openRule(x, "0x: 0x");
        int[] open = Check.state(x);
        check.due("open and left recursive", x.compile(), DcgEngine.COMPILE_RULE_OPEN);
        check.same("a refused compile", open, Check.state(x));
        check.due("the rule is still open", x.endRule(), true);
        check.due("left recursive", x.compile(), DcgEngine.COMPILE_LEFT_RECURSIVE);
        x.removeLastRule();
        check.due("no rules again", x.compile(), DcgEngine.COMPILE_NO_RULES);
    }

    private static void compiledFlag() {
        DcgEngine x = Build.grammar("0x: 'a");
        Build.tokens(x, "a");
        check.due("before compile", x.prove(0, 0, 0, 1), DcgEngine.REFUSED);
        int[] before = Check.state(x);
        check.due("compile", x.compile(), DcgEngine.COMPILE_OK);
        int[] after = Check.state(x);
        before[before.length - 1] = 1;
        check.same("compile (but for COMPILED)", before, after);
        check.due("after compile", x.prove(0, 0, 0, 1), DcgEngine.YES);
        check.due("compile twice", x.compile(), DcgEngine.COMPILE_OK);
        check.due("after the second", x.prove(0, 0, 0, 1), DcgEngine.YES);
        x.clearTokens();
        check.due("tokens keep COMPILED", x.prove(0, 0, 0, 0), DcgEngine.NO);
        x.addToken(10);
        check.due("tokens keep COMPILED still", x.prove(0, 0, 0, 1), DcgEngine.YES);
        x.beginRule(0, 4);
        check.due("beginRule clears it", x.prove(0, 0, 0, 1), DcgEngine.REFUSED);
        x.addItem(0, 11, 0);
        x.endRule();
        check.due("endRule does not set it", x.prove(0, 0, 0, 1), DcgEngine.REFUSED);
        x.addToken(11);
        x.clearTokens();
        x.addToken(11);
        check.due("nor do tokens", x.answerMask(0), DcgEngine.REFUSED);
        x.compile();
        check.due("the new rule counts", x.answerMask(0), 15);
        check.due("the old one is not due here", x.firstRule(0, 3, 0, 1), 1);
        x.removeLastRule();
        check.due("removeLastRule clears it", x.answerMask(0), DcgEngine.REFUSED);
        x.compile();
        check.due("and its rule derives no more", x.answerMask(0), 0);
    }

    public static void main(String[] args) {
        leftCycles();
        nullableBefore();
        argumentsPlayNoPart();
        openRuleCounts();
        oldItemsDoNotCount();
        fullGrammar();
        order();
        compiledFlag();
        check.finish();
    }
}
