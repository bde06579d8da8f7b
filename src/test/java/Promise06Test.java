/** Promise 6: compile. */
public final class Promise06Test extends Check {
    private static void refusedCompile(DcgEngine x, int due) {
        answers(x, "compile()", x::compile, due);
        answers(x, "compile() again", x::compile, due);
        due("COMPILED", isCompiled(x), false);
    }

    /** "1. a rule is open: COMPILE_RULE_OPEN;" */
    static void refusedWhileARuleIsOpen() {
        for (String rule : new String[] {"0x:", "0x: 'a", "5y: | 'a |", "1x: 'a 'b 'c 'd 'e 'f"}) {
            DcgEngine alone = Build.grammar();
            Build.openRule(alone, rule);
            refusedCompile(alone, DcgEngine.COMPILE_RULE_OPEN);
            DcgEngine x = Build.compiled("2x: 'a", "3x:");
            Build.tokens(x, "abababab");
            Build.openRule(x, rule);
            refusedCompile(x, DcgEngine.COMPILE_RULE_OPEN);
            due("the rule is still open", x.endRule(), true);
            due("closed it compiles", x.compile(), DcgEngine.COMPILE_OK);
        }
    }

    /** "1. a rule is open: COMPILE_RULE_OPEN;": also the last rule that there is room for. */
    static void refusedWhileTheLastPossibleRuleIsOpen() {
        for (int cap = 1; cap <= 12; cap++) {
            DcgEngine x = new DcgEngine(cap, 1);
            for (int r = 0; r < cap; r++) {
                x.beginRule(r % 6, 0);
                refusedCompile(x, DcgEngine.COMPILE_RULE_OPEN);
                x.endRule();
            }
            due("compile()", x.compile(), DcgEngine.COMPILE_OK);
        }
    }

    /** "2. there are no rules: COMPILE_NO_RULES;" */
    static void refusedWithoutRules() {
        DcgEngine x = new DcgEngine(12, 8);
        refusedCompile(x, DcgEngine.COMPILE_NO_RULES);
        Build.tokens(x, "01234567");
        refusedCompile(x, DcgEngine.COMPILE_NO_RULES);
        Build.openRule(x, "0x: 0x");
        x.removeLastRule();
        refusedCompile(x, DcgEngine.COMPILE_NO_RULES);
        DcgEngine was = Build.compiled("0x: 'a", "1x:");
        was.removeLastRule();
        was.removeLastRule();
        refusedCompile(was, DcgEngine.COMPILE_NO_RULES);
    }

    /** "3. some nonterminal 0..5 is on a left cycle: COMPILE_LEFT_RECURSIVE." */
    static void refusedForALeftCycle() {
        for (int nt = 0; nt <= 5; nt++) {
            DcgEngine x = Build.grammar(nt + "x: 'a | " + nt + "x 'b");
            refusedCompile(x, DcgEngine.COMPILE_LEFT_RECURSIVE);
            Build.tokens(x, "abababab");
            refusedCompile(x, DcgEngine.COMPILE_LEFT_RECURSIVE);
            DcgEngine two = Build.grammar(nt + "x: " + (nt + 1) % 6 + "x", (nt + 1) % 6 + "x: " + nt + "x 'b");
            refusedCompile(two, DcgEngine.COMPILE_LEFT_RECURSIVE);
        }
        refusedCompile(Build.grammar("0x: 1x 0x", "1x:"), DcgEngine.COMPILE_LEFT_RECURSIVE);
        refusedCompile(Build.grammar("0x: 1x", "1x: 2x", "2x: 3x", "3x: 4x", "4x: 5x", "5x: 0x"),
                DcgEngine.COMPILE_LEFT_RECURSIVE);
    }

    /** "3. some nonterminal 0..5 is on a left cycle": made by the last of twelve full rules. */
    static void refusedForALeftCycleInTheLastRule() {
        DcgEngine x = new DcgEngine(12, 8);
        for (int r = 0; r < 11; r++) {
            Build.openRule(x, "0x: 'a 'b 'c 'd 'e 'f");
            x.endRule();
        }
        due("eleven rules", x.compile(), DcgEngine.COMPILE_OK);
        Build.openRule(x, "0x: 'a 'b 'c 'd | 0x");
        x.endRule();
        refusedCompile(x, DcgEngine.COMPILE_LEFT_RECURSIVE);
        x.removeLastRule();
        due("without it", x.compile(), DcgEngine.COMPILE_OK);
    }

    /** "The conditions, in this order; the first that holds gives the answer and changes nothing" */
    static void openComesBeforeLeftRecursive() {
        DcgEngine x = Build.grammar();
        Build.openRule(x, "0x: 0x");
        due("on a left cycle", x.onLeftCycle(0), true);
        refusedCompile(x, DcgEngine.COMPILE_RULE_OPEN);
        x.endRule();
        refusedCompile(x, DcgEngine.COMPILE_LEFT_RECURSIVE);
        Build.openRule(x, "1x: 'a");
        refusedCompile(x, DcgEngine.COMPILE_RULE_OPEN);
        x.removeLastRule();
        refusedCompile(x, DcgEngine.COMPILE_LEFT_RECURSIVE);
        x.removeLastRule();
        refusedCompile(x, DcgEngine.COMPILE_NO_RULES);
    }

    /** "Otherwise COMPILED becomes true and the answer is COMPILE_OK." */
    static void setsCompiled() {
        DcgEngine x = Build.grammar("0x: 'a");
        Build.tokens(x, "a");
        due("before", x.prove(0, 0, 0, 1), DcgEngine.REFUSED);
        due("compile()", x.compile(), DcgEngine.COMPILE_OK);
        due("prove", x.prove(0, 0, 0, 1), DcgEngine.YES);
        due("answerMask", x.answerMask(0), 15);
        due("endMask", x.endMask(0, 0, 0), 2);
        due("firstRule", x.firstRule(0, 0, 0, 1), 0);
        DcgEngine empty = Build.grammar("0x:");
        due("one empty rule", empty.compile(), DcgEngine.COMPILE_OK);
        due("on an empty string", empty.answerMask(0), 15);
    }

    /** "Rules and tokens never change." */
    static void rulesAndTokensStay() {
        for (String tokens : new String[] {"", "0f1", "0123456f"}) {
            DcgEngine x = Build.grammar("0x: 'a 1x | 'b", "1y: | |", "53: 'f 'f 'f 'f 'f 50");
            Build.tokens(x, tokens);
            int[] rules = rules(x);
            int[] string = tokens(x);
            due("compile()", x.compile(), DcgEngine.COMPILE_OK);
            same("the rules: compile", rules, rules(x));
            same("the tokens: compile", string, tokens(x));
            due("no rule is open", x.endRule(), false);
        }
    }

    /** "A repeated compile with nothing changed in between gives the same answer as before" */
    static void repeatedCompileAnswersAlike() {
        for (String tokens : new String[] {"", "aab", "aabaabaa"}) {
            DcgEngine x = Build.compiled("0x: 'a 0x |", "1x: 0x");
            Build.tokens(x, tokens);
            int[] before = everything(x);
            for (int n = 0; n < 3; n++) {
                due("compile() again", x.compile(), DcgEngine.COMPILE_OK);
                same("compile() again", before, everything(x));
            }
        }
    }

    /** "with nothing changed in between": refused calls change nothing, and tokens play no part. */
    static void compileAfterCallsThatLeaveTheRules() {
        DcgEngine x = Build.compiled("0x: 'a 0x |", "1x: 0x");
        Build.tokens(x, "aab");
        int[] before = everything(x);
        x.beginRule(6, 0);
        x.endRule();
        x.addItem(2, 0, 0);
        x.addToken(16);
        due("after refused calls", x.compile(), DcgEngine.COMPILE_OK);
        same("compile() after refused calls", before, everything(x));
        x.clearTokens();
        due("after other tokens", x.compile(), DcgEngine.COMPILE_OK);
        due("the empty string", x.answerMask(0), 15);
    }

    /** "a grammar whose left recursion could never be used with matching values is still answered COMPILE_LEFT_RECURSIVE" */
    static void argumentsPlayNoPart() {
        refusedCompile(Build.grammar("00: 01 'a"), DcgEngine.COMPILE_LEFT_RECURSIVE);
        refusedCompile(Build.grammar("00: 11", "12: 03"), DcgEngine.COMPILE_LEFT_RECURSIVE);
        refusedCompile(Build.grammar("00: 11 00", "12:"), DcgEngine.COMPILE_LEFT_RECURSIVE);
        for (int head = 0; head <= 5; head++) {
            for (int inner = 0; inner <= 5; inner++) {
                DcgEngine x = new DcgEngine(1, 1);
                x.beginRule(4, head);
                x.addItem(1, 4, inner);
                x.endRule();
                refusedCompile(x, DcgEngine.COMPILE_LEFT_RECURSIVE);
            }
        }
    }

    /** "some nonterminal 0..5 is on a left cycle": recursion at another place is none. */
    static void otherRecursionCompiles() {
        due("right", Build.grammar("0x: 'a 0x").compile(), DcgEngine.COMPILE_OK);
        due("middle", Build.grammar("0x: 'a 0x 'b |").compile(), DcgEngine.COMPILE_OK);
        due("after one that needs a token", Build.grammar("0x: 1x 0x", "1x: 'a").compile(), DcgEngine.COMPILE_OK);
        due("after one without rules", Build.grammar("0x: 1x 0x").compile(), DcgEngine.COMPILE_OK);
    }

    public static void main(String[] args) {
        run(Promise06Test.class);
    }
}
