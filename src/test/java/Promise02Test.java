/** Promise 2: beginRule. */
public final class Promise02Test extends Check {
    private static void refusedBegin(DcgEngine x, int nt, int arg) {
        refused(x, "beginRule(" + nt + ", " + arg + ")", () -> x.beginRule(nt, arg));
    }

    private static DcgEngine withRules(int count) {
        DcgEngine x = new DcgEngine(count, 8);
        for (int r = 0; r < count; r++) {
            x.beginRule(r % 6, 4);
            x.addItem(0, r, 0);
            x.endRule();
        }
        return x;
    }

    /** "1. a rule is open;" */
    static void refusedWhileARuleIsOpen() {
        for (String rule : new String[] {"0x:", "0x: 1x", "5y: 'a | 'b | 0x"}) {
            DcgEngine first = Build.grammar();
            Build.tokens(first, "01234567");
            Build.openRule(first, rule);
            refusedBegin(first, 0, 0);
            refusedBegin(first, 5, 5);
            DcgEngine later = Build.compiled("1x: 'a");
            Build.tokens(later, "abcdefab");
            Build.openRule(later, rule);
            refusedBegin(later, 2, 0);
            due("the open rule still takes items", later.addItem(2, 0, 0) && later.endRule(), true);
            due("and closed it lets the next begin", later.beginRule(2, 0), true);
        }
    }

    /** "2. the rule count equals ruleCap;" */
    static void refusedAtRuleCap() {
        for (int cap = 1; cap <= 12; cap++) {
            DcgEngine x = withRules(cap);
            refusedBegin(x, 0, 0);
            refusedBegin(x, 5, 5);
            Build.tokens(x, "01234567");
            refusedBegin(x, 0, 0);
            due("compile()", x.compile(), DcgEngine.COMPILE_OK);
            refusedBegin(x, 0, 0);
            due("still derives", x.prove(0, 0, 0, 1), DcgEngine.YES);
            due("one rule less", x.removeLastRule(), true);
            due("lets one begin", x.beginRule(0, 0), true);
            due("and close", x.endRule(), true);
            refusedBegin(x, 0, 0);
        }
    }

    /** "2. the rule count equals ruleCap;": one below, the call is not refused. */
    static void takenBelowRuleCap() {
        for (int cap = 1; cap <= 12; cap++) {
            DcgEngine x = new DcgEngine(cap, 8);
            for (int r = 0; r < cap; r++) {
                due("beginRule, rule " + r + " of " + cap, x.beginRule(r % 6, r % 6), true);
                due("endRule", x.endRule(), true);
            }
        }
    }

    /** "3. nt is not in 0..5;" */
    static void refusedForWrongNonterminal() {
        for (int nt : ODD_NUMBERS) {
            for (int arg = 0; arg <= 5 && !isIn(nt, 0, 5); arg++) {
                DcgEngine x = Build.compiled("0x: 'a");
                refusedBegin(x, nt, arg);
                Build.tokens(x, "aaaaaaaa");
                refusedBegin(x, nt, arg);
                refusedBegin(new DcgEngine(1, 1), nt, arg);
            }
        }
    }

    /** "4. arg is not in 0..5." */
    static void refusedForWrongArgument() {
        for (int arg : ODD_NUMBERS) {
            for (int nt = 0; nt <= 5 && !isIn(arg, 0, 5); nt++) {
                DcgEngine x = Build.compiled("0x: 'a");
                refusedBegin(x, nt, arg);
                Build.tokens(x, "aaaaaaaa");
                refusedBegin(x, nt, arg);
                refusedBegin(new DcgEngine(1, 1), nt, arg);
            }
        }
    }

    /** "The conditions, in this order; the first that holds refuses the call" */
    static void refusedForSeveralReasons() {
        DcgEngine open = Build.grammar("1x: 'a");
        Build.openRule(open, "0x: 1x");
        DcgEngine full = withRules(2);
        full.compile();
        DcgEngine fullAndOpen = withRules(2);
        fullAndOpen.removeLastRule();
        fullAndOpen.beginRule(3, 3);
        DcgEngine free = Build.compiled("1x: 'a");
        for (int nt : ODD_NUMBERS) {
            for (int arg : ODD_NUMBERS) {
                refusedBegin(open, nt, arg);
                refusedBegin(full, nt, arg);
                refusedBegin(fullAndOpen, nt, arg);
                if (!isIn(nt, 0, 5) || !isIn(arg, 0, 5)) {
                    refusedBegin(free, nt, arg);
                }
            }
        }
    }

    /** "beginRule(nt, arg) starts a new open rule with head (nt, arg)." */
    static void everyHeadIsTaken() {
        for (int nt = 0; nt <= 5; nt++) {
            for (int arg = 0; arg <= 5; arg++) {
                DcgEngine x = new DcgEngine(1, 1);
                due("beginRule(" + nt + ", " + arg + ")", x.beginRule(nt, arg), true);
                due("its head", x.ruleHead(0), OPEN_MARK + nt * 8 + arg);
            }
        }
    }

    /** "Otherwise the new rule gets index = old rule count, is open" */
    static void newRuleIsTheLastAndOpen() {
        DcgEngine x = new DcgEngine(12, 8);
        for (int r = 0; r < 12; r++) {
            due("count before", ruleCount(x), r);
            due("beginRule", x.beginRule(r % 6, 5 - r % 6), true);
            due("count after", ruleCount(x), r + 1);
            due("its head", x.ruleHead(r), OPEN_MARK + r % 6 * 8 + 5 - r % 6);
            due("it is open", x.endRule(), true);
        }
    }

    /** "and has an empty body" */
    static void newRuleHasAnEmptyBody() {
        DcgEngine x = Build.grammar("0x: 'a", "1x: 'a 1x | 'b 'c 'd");
        x.removeLastRule();
        due("beginRule in a removed rule's place", x.beginRule(3, 2), true);
        due("its body", bodyLength(x, 1), 0);
        for (int k : ODD_NUMBERS) {
            due("item(1, " + k + ")", x.item(1, k), -1);
        }
        due("its first item", x.addItem(1, 5, 5), true);
        due("item(1, 0)", x.item(1, 0), 256 + 45);
        due("item(1, 1)", x.item(1, 1), -1);
        for (int k = 1; k < 6; k++) {
            due("it has room for six", x.addItem(0, k, 0), true);
        }
    }

    /** "COMPILED becomes false; the answer is true." */
    static void clearsCompiled() {
        DcgEngine x = Build.compiled("0x: 'a");
        Build.tokens(x, "a");
        due("compiled", x.prove(0, 0, 0, 1), DcgEngine.YES);
        due("beginRule(0, 0)", x.beginRule(0, 0), true);
        due("prove", x.prove(0, 0, 0, 1), DcgEngine.REFUSED);
        due("answerMask", x.answerMask(0), DcgEngine.REFUSED);
        due("endMask", x.endMask(0, 0, 0), DcgEngine.REFUSED);
        due("firstRule", x.firstRule(0, 0, 0, 1), DcgEngine.REFUSED);
        due("closing it", x.endRule(), true);
        due("does not set it again", isCompiled(x), false);
    }

    /** "Earlier rules, their bodies, and the token string do not change." */
    static void earlierRulesAndTokensStay() {
        DcgEngine x = Build.compiled("0x: 'a 1x | 'b", "1y: | |", "53: 'f 'f 'f 'f 'f 50");
        Build.tokens(x, "0123456f");
        int[] before = rules(x);
        int[] string = tokens(x);
        due("beginRule(4, 2)", x.beginRule(4, 2), true);
        due("the new head", x.ruleHead(3), OPEN_MARK + 34);
        int[] after = rules(x);
        // The new rule's head is the one place where the two may differ.
        after[headPlace(3)] = -1;
        same("the rules: beginRule", before, after);
        same("the tokens: beginRule", string, tokens(x));
    }

    public static void main(String[] args) {
        run(Promise02Test.class);
    }
}
