/** Promise 4: endRule. */
public final class Promise04Test extends Check {
    private static void refusedEnd(DcgEngine x) {
        refused(x, "endRule()", x::endRule);
    }

    /** "It is refused (false, nothing changes) if no rule is open." */
    static void refusedWhileNoRuleIsOpen() {
        refusedEnd(new DcgEngine(12, 8));
        DcgEngine stringAlone = new DcgEngine(1, 8);
        Build.tokens(stringAlone, "abcabcab");
        refusedEnd(stringAlone);
        DcgEngine closed = Build.grammar("0x: 'a", "1x:");
        refusedEnd(closed);
        refusedEnd(closed);
        DcgEngine compiled = Build.compiled("0x: 'a", "1x:");
        Build.tokens(compiled, "aaaaaaaa");
        refusedEnd(compiled);
        due("still compiled", compiled.prove(0, 0, 0, 1), DcgEngine.YES);
        DcgEngine recursive = Build.grammar("0x: 0x");
        recursive.compile();
        refusedEnd(recursive);
        Build.openRule(compiled, "2x: 'b");
        compiled.removeLastRule();
        refusedEnd(compiled);
        closed.removeLastRule();
        closed.removeLastRule();
        refusedEnd(closed);
    }

    /** "Otherwise the rule is no longer open and the answer is true." */
    static void closesTheOpenRule() {
        for (int nt = 0; nt <= 5; nt++) {
            for (int arg = 0; arg <= 5; arg++) {
                DcgEngine x = new DcgEngine(2, 1);
                x.beginRule(nt, arg);
                due("open", x.ruleHead(0), OPEN_MARK + nt * 8 + arg);
                due("endRule()", x.endRule(), true);
                due("closed", x.ruleHead(0), nt * 8 + arg);
                due("it takes no item", x.addItem(0, 0, 0), false);
                due("no second time", x.endRule(), false);
                due("the next may begin", x.beginRule(nt, arg), true);
            }
        }
    }

    /** "The rule keeps its index, head and body; the rule count, COMPILED and the tokens do not change." */
    static void nothingElseChanges() {
        DcgEngine x = Build.compiled("5y: 'f 0y |", "0x:");
        Build.tokens(x, "12345678");
        Build.openRule(x, "4x: 'a 'b | 1x 23 |");
        int[] before = rules(x);
        int[] string = tokens(x);
        due("endRule()", x.endRule(), true);
        due("rule count", ruleCount(x), 3);
        due("COMPILED", isCompiled(x), false);
        same("the tokens: endRule", string, tokens(x));
        int[] after = rules(x);
        after[headPlace(2)] += OPEN_MARK;
        same("the rules: endRule", before, after);
    }

    /** "A rule may be closed with an empty body." */
    static void emptyBodyMayBeClosed() {
        DcgEngine x = new DcgEngine(12, 8);
        for (int r = 0; r < 12; r++) {
            due("beginRule", x.beginRule(r % 6, 4), true);
            due("endRule() at once", x.endRule(), true);
            due("no item", bodyLength(x, r), 0);
        }
        due("compile()", x.compile(), DcgEngine.COMPILE_OK);
        due("derives the empty span", x.prove(5, 3, 0, 0), DcgEngine.YES);
    }

    /** "A rule may be closed with an empty body.": and with a full one. */
    static void fullBodyMayBeClosed() {
        DcgEngine x = Build.grammar();
        Build.openRule(x, "0x: 'a 'b 'c 'd 'e 'f");
        due("endRule()", x.endRule(), true);
        due("six items", bodyLength(x, 0), 6);
        due("no second time", x.endRule(), false);
    }

    public static void main(String[] args) {
        run(Promise04Test.class);
    }
}
