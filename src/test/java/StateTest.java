/** "What it is" and "State and meaning": the alphabet, the grammar, COMPILED, tokens, derivations, left cycles. */
public final class StateTest extends Span {
    // ---- What it is ----

    /** "nonterminals are 0..5 (NONTERMINALS)" */
    static void nonterminals() {
        for (int nt : ODD_NUMBERS) {
            boolean due = isIn(nt, 0, 5);
            DcgEngine x = Build.compiled("0x:", "1x:", "2x:", "3x:", "4x:", "5x:");
            due("asked for " + nt, x.answerMask(nt), due ? 15 : DcgEngine.REFUSED);
            due("head " + nt, x.beginRule(nt, 0), due);
            DcgEngine open = Build.grammar();
            open.beginRule(0, 0);
            due("item " + nt, open.addItem(1, nt, 0), due);
        }
    }

    /** "argument values are 0..3 (VALUES)" */
    static void values() {
        DcgEngine x = Build.compiled("0x:", "1y:");
        for (int v : ODD_NUMBERS) {
            boolean due = isIn(v, 0, 3);
            due("X0 = " + v, x.prove(0, v, 0, 0), due ? DcgEngine.YES : DcgEngine.REFUSED);
            due("X1 = " + v, x.prove(1, v, 0, 0), due ? DcgEngine.YES : DcgEngine.REFUSED);
        }
        due("four of X0", x.answerMask(0), 15);
        due("four of X1", x.answerMask(1), 15);
    }

    /** "tokens are 0..15 (TOKENS)": each is one of its own. */
    static void tokenAlphabet() {
        for (int tok = 0; tok <= 15; tok++) {
            DcgEngine x = new DcgEngine(1, 1);
            x.beginRule(0, 0);
            due("item " + tok, x.addItem(0, tok, 0), true);
            x.endRule();
            x.compile();
            for (int other = 0; other <= 15; other++) {
                x.clearTokens();
                due("token " + other, x.addToken(other), true);
                due(tok + " against " + other, x.prove(0, 0, 0, 1), tok == other ? 1 : 0);
            }
        }
    }

    /** "An argument code is in 0..5: a code 0..3 is that constant value" */
    static void constantCodes() {
        for (int c = 0; c <= 3; c++) {
            DcgEngine x = Build.compiled("0" + c + ": 'a", "1x: 0" + c + " 'b", "20: 'b", "21: 'c", "22: 'd", "23: 'e", "3x: 2" + c);
            Build.tokens(x, "ab");
            due("head", x.endMask(0, c, 0), 2);
            due("only that value", x.firstRule(0, (c + 1) % 4, 0, 1), DcgEngine.NO_RULE);
            due("item", x.answerMask(1), 15);
            for (int tok = 11; tok <= 14; tok++) {
                x.clearTokens();
                x.addToken(tok);
                due("item " + c + " and token " + tok, x.answerMask(3), tok == 11 + c ? 15 : 0);
            }
        }
    }

    /** "ARG_X0 (4) is the variable X0; ARG_X1 (5) is the variable X1." */
    static void variableCodes() {
        int[] heads = {DcgEngine.ARG_X0, DcgEngine.ARG_X1};
        for (int head : heads) {
            for (int inner : heads) {
                DcgEngine x = Build.grammar("12: 'a");
                x.beginRule(0, head);
                x.addItem(DcgEngine.ITEM_NONTERMINAL, 1, inner);
                x.endRule();
                x.compile();
                x.addToken(10);
                due("head " + head + ", item " + inner, x.answerMask(0), head == inner ? 4 : 15);
            }
        }
    }

    // ---- Grammar ----

    /** "The grammar is a list of rules, indexed 0, 1, 2, .. in order of creation." */
    static void rulesInOrderOfCreation() {
        DcgEngine x = Build.grammar("5x:", "00:", "3y:", "00:");
        int[] due = {44, 0, 29, 0, -1};
        for (int r = 0; r < 5; r++) {
            due("ruleHead(" + r + ")", x.ruleHead(r), due[r]);
        }
    }

    /** "a body of 0..MAX_BODY items" */
    static void bodyLengths() {
        for (int length = 0; length <= 6; length++) {
            DcgEngine x = new DcgEngine(1, 8);
            x.beginRule(0, 4);
            for (int k = 0; k < length; k++) {
                due("item " + k, x.addItem(0, k, 0), true);
            }
            x.endRule();
            x.compile();
            for (int i = 0; i < 8; i++) {
                x.addToken(i);
            }
            ends(x, 0, 3, 0, 1 << length);
            ends(x, 0, 3, 1, length == 0 ? 2 : 0);
        }
    }

    /** "a body with b BAR items has b+1 alternatives" */
    static void alternatives() {
        String[] bodies = {"'0 '1 '2", "'0 | '1 '2", "'0 | '1 | '2", "'0 | '1 | |", "| '1 | | | '2", "| | '0 | | |", "| | | | | |"};
        int[] due = {8, 2, 2, 3, 1, 3, 1};
        for (int bars = 0; bars <= 6; bars++) {
            DcgEngine x = Build.compiled("0x: " + bodies[bars]);
            Build.tokens(x, "012");
            ends(x, 0, 0, 0, due[bars]);
        }
        DcgEngine x = Build.compiled("0x: '0 | '1 '2", "1x: '0 | '1 | '2");
        Build.tokens(x, "012");
        ends(x, 0, 0, 1, 8);
        ends(x, 0, 0, 2, 0);
        for (int from = 0; from < 3; from++) {
            ends(x, 1, 0, from, 2 << from);
        }
    }

    /** "Each alternative is the run of items, possibly empty, lying between two consecutive BARs, or between a BAR and the start or end of the body." */
    static void emptyAlternatives() {
        DcgEngine x = Build.compiled("0x: | 'a", "1x: 'a |", "2x: 'a | | 'a 'a", "3x: |", "4x: 'a | 'a 'a");
        Build.tokens(x, "aaa");
        ends(x, 0, 1, 0, 1 | 2);
        ends(x, 1, 1, 0, 1 | 2);
        ends(x, 2, 1, 0, 1 | 2 | 4);
        ends(x, 3, 1, 0, 1);
        ends(x, 4, 1, 0, 2 | 4);
    }

    /** "A body with no BAR is a single alternative made of the whole body" */
    static void noBar() {
        DcgEngine x = Build.compiled("0x: 'a 'b 'c 'd 'e 'f", "1x: 'a 2x 'c", "2x: 'b");
        Build.tokens(x, "abcdef");
        ends(x, 0, 0, 0, 1 << 6);
        ends(x, 1, 0, 0, 1 << 3);
        for (int from = 1; from <= 6; from++) {
            ends(x, 0, 0, from, 0);
            ends(x, 1, 0, from, 0);
        }
    }

    /** "in particular an empty body (also that of a just-begun open rule) is one empty alternative": a closed rule's. */
    static void emptyBody() {
        DcgEngine x = Build.compiled("0x:", "1x: 0x 'a 0x");
        Build.tokens(x, "aa");
        for (int from = 0; from <= 2; from++) {
            ends(x, 0, 2, from, 1 << from);
            ends(x, 1, 2, from, from < 2 ? 2 << from : 0);
        }
    }

    /** "in particular an empty body (also that of a just-begun open rule) is one empty alternative": the open rule's. */
    static void emptyBodyOfAJustBegunRule() {
        DcgEngine x = Build.grammar("0x: 1x 0x");
        due("1 has no rule", leftCycles(x), 0);
        x.beginRule(1, 0);
        due("1 vanishes", leftCycles(x), 1);
        x.addItem(0, 3, 0);
        due("with a token it does not", leftCycles(x), 0);
        x.addItem(2, 0, 0);
        due("a last BAR gives an empty alternative again", leftCycles(x), 1);
    }

    private static int openRules(DcgEngine x) {
        int open = 0;
        for (int r = 0; r < 12; r++) {
            open |= x.ruleHead(r) >= OPEN_MARK ? 1 << r : 0;
        }
        return open;
    }

    /** "At most one rule is OPEN (still being built), and it is always the last rule." */
    static void openRuleIsTheLast() {
        DcgEngine x = new DcgEngine(12, 8);
        for (int r = 0; r < 12; r++) {
            due("none", openRules(x), 0);
            x.beginRule(r % 6, r % 6);
            due("the last", openRules(x), 1 << r);
            x.beginRule(0, 0);
            due("still the last", openRules(x), 1 << r);
            x.removeLastRule();
            due("none when it is removed", openRules(x), 0);
            x.beginRule(r % 6, r % 6);
            x.endRule();
        }
        due("none at last", openRules(x), 0);
    }

    // ---- COMPILED ----

    /** "COMPILED is a flag, false on a fresh object." */
    static void freshIsNotCompiled() {
        due("fresh", isCompiled(new DcgEngine(12, 8)), false);
        due("with rules", isCompiled(Build.grammar("0x:", "1x:")), false);
    }

    /** "A successful compile() sets it.": one that is refused does not. */
    static void onlyASuccessfulCompileSetsIt() {
        DcgEngine x = new DcgEngine(12, 8);
        x.compile();
        due("no rules", isCompiled(x), false);
        x.beginRule(0, 0);
        x.compile();
        due("open", isCompiled(x), false);
        x.addItem(1, 0, 0);
        x.endRule();
        x.compile();
        due("left recursive", isCompiled(x), false);
        x.removeLastRule();
        x.beginRule(0, 0);
        x.endRule();
        x.compile();
        due("well", isCompiled(x), true);
    }

    /** "A successful beginRule or removeLastRule clears it.": one that is refused does not. */
    static void onlyASuccessfulChangeClearsIt() {
        DcgEngine x = new DcgEngine(2, 8);
        x.beginRule(0, 0);
        x.endRule();
        x.compile();
        x.beginRule(6, 0);
        x.beginRule(0, 6);
        x.beginRule(-1, -1);
        x.addItem(0, 0, 0);
        x.endRule();
        due("refused calls", isCompiled(x), true);
        x.beginRule(1, 0);
        due("beginRule", isCompiled(x), false);
        x.endRule();
        x.compile();
        x.beginRule(1, 0);
        due("beginRule at ruleCap", isCompiled(x), true);
        x.removeLastRule();
        due("removeLastRule", isCompiled(x), false);
        x.compile();
        x.removeLastRule();
        x.removeLastRule();
        due("removeLastRule to the last", isCompiled(x), false);
    }

    /** "Tokens never change it." */
    static void tokensKeepIt() {
        DcgEngine x = Build.grammar("0x:");
        Build.tokens(x, "01234567");
        due("tokens do not set it", isCompiled(x), false);
        x.compile();
        Build.tokens(x, "01234567");
        x.addToken(0);
        x.addToken(16);
        due("tokens do not clear it", isCompiled(x), true);
        x.clearTokens();
        due("nor does clearing", isCompiled(x), true);
    }

    // ---- Tokens ----

    /** "A string t[0..n-1], where n = tokenCount() and 0 <= n <= tokenCap." */
    static void tokenCountStaysInRange() {
        for (int cap = 1; cap <= 8; cap++) {
            DcgEngine x = new DcgEngine(1, cap);
            due("least", x.tokenCount(), 0);
            for (int n = 0; n < 20; n++) {
                x.addToken(n % 16);
                due("tokenCount()", x.tokenCount(), Math.min(n + 1, cap));
            }
            x.clearTokens();
            x.clearTokens();
            due("least again", x.tokenCount(), 0);
        }
    }

    // ---- Derivation ----

    /** "D is the least relation": recursion that never ends derives nothing. */
    static void leastRelation() {
        DcgEngine x = Build.compiled("0x: 'a 0x", "1x: 'a 2x", "2x: 'a 1x", "3x: 'a 3x |");
        Build.tokens(x, "aaaaaaaa");
        for (int from = 0; from <= 8; from++) {
            ends(x, 0, 0, from, 0);
            ends(x, 1, 0, from, 0);
            ends(x, 2, 0, from, 0);
            ends(x, 3, 0, from, 511 >> from << from);
        }
    }

    /** "D is the least relation such that D(m,v,i,j) holds if there are": nothing is left out, though all derive something at once. */
    static void nothingIsLeftOut() {
        DcgEngine two = Build.compiled("0x: 1x |", "1x: 'a |");
        Build.tokens(two, "a");
        ends(two, 0, 2, 0, 3);
        String[] down = {"0x: 1x |", "1x: 2x |", "2x: 3x |", "3x: 4x |", "4x: 5x |", "5x: 'a 0x |"};
        String[] up = {"5x: 'a 0x |", "4x: 5x |", "3x: 4x |", "2x: 3x |", "1x: 2x |", "0x: 1x |"};
        for (String[] rules : new String[][] {down, up}) {
            DcgEngine x = Build.compiled(rules);
            Build.tokens(x, "aaaaaaaa");
            for (int from = 0; from <= 8; from++) {
                for (int nt = 0; nt <= 5; nt++) {
                    ends(x, nt, from % 4, from, 511 >> from << from);
                }
            }
        }
    }

    /** "a rule r whose head is (m, h)": each of them, in whatever order they stand. */
    static void everyRule() {
        String[] down = {"0x: 1x", "1x: 2x", "2x: 3x", "3x: 4x", "4x: 5x", "50: | 'a 01", "51: 'b 00"};
        String[] up = {"51: 'b 00", "50: | 'a 01", "4x: 5x", "3x: 4x", "2x: 3x", "1x: 2x", "0x: 1x"};
        for (String[] rules : new String[][] {down, up}) {
            DcgEngine x = Build.compiled(rules);
            Build.tokens(x, "abababab");
            ends(x, 0, 0, 0, 1 | 4 | 16 | 64 | 256);
            ends(x, 0, 1, 0, 0);
            ends(x, 0, 1, 1, 4 | 16 | 64 | 256);
            ends(x, 0, 1, 7, 256);
            ends(x, 0, 2, 0, 0);
        }
    }

    /** "a rule r whose head is (m, h)": twelve of them with six items each. */
    static void fullGrammar() {
        DcgEngine x = new DcgEngine(12, 8);
        for (int r = 0; r < 12; r++) {
            Build.openRule(x, r % 6 + "x: 'a 'a 'a 'a 'a " + (r == 11 ? "0x" : "'a"));
            x.endRule();
        }
        Build.tokens(x, "aaaaaaaa");
        due("compile()", x.compile(), DcgEngine.COMPILE_OK);
        for (int nt = 0; nt <= 5; nt++) {
            for (int from = 0; from <= 8; from++) {
                ends(x, nt, 3, from, from <= 2 ? 64 << from : 0);
            }
        }
    }

    /** "an assignment s of values 0..3 to X0 and X1": each of the sixteen. */
    static void everyAssignment() {
        for (int x0 = 0; x0 <= 3; x0++) {
            for (int x1 = 0; x1 <= 3; x1++) {
                DcgEngine x = Build.compiled("00: 1x 2y 'c", "0x: 1x 2y", "0y: 1x 2y 'd", "1" + x0 + ": 'a", "2" + x1 + ": 'b");
                Build.tokens(x, "ab");
                due("value of X0", x.answerMask(0), 1 << x0);
                Build.tokens(x, "abd");
                due("value of X1", x.answerMask(0), 1 << x1);
                Build.tokens(x, "abc");
                due("not in the head", x.answerMask(0), 1);
            }
        }
    }

    /** "an assignment s of values 0..3 to X0 and X1": no other value, and none where nothing is derived. */
    static void noOtherAssignment() {
        DcgEngine x = Build.compiled("00: 'b 4x", "20: 'b 4y", "50: 'd");
        Build.tokens(x, "bd");
        due("X0", x.answerMask(0), 0);
        due("X1", x.answerMask(2), 0);
    }

    /** "chosen afresh for each alternative" */
    static void freshForEachAlternative() {
        DcgEngine x = Build.compiled("00: 1x 'c | 1x 'd", "11: 'a", "12: 'b");
        for (String word : new String[] {"ac", "ad", "bc", "bd"}) {
            Build.tokens(x, word);
            due(word, x.answerMask(0), 1);
        }
    }

    /** "val(Xk) = s(Xk)": within an alternative a variable has one value, and the two are free of each other. */
    static void oneValueWithinAnAlternative() {
        DcgEngine x = Build.compiled("0x: 1x 1y 1x", "11: 'a", "12: 'b");
        for (String word : new String[] {"aaa", "aba", "bab", "bbb", "aab", "bba", "abb", "baa"}) {
            Build.tokens(x, word);
            int due = word.charAt(0) != word.charAt(2) ? 0 : word.charAt(0) == 'a' ? 2 : 4;
            due(word, x.answerMask(0), due);
        }
    }

    /** "with val(h) = v" */
    static void headValue() {
        DcgEngine x = Build.compiled("0x: 2x 3x", "1x: 2x 3y", "2x: 'a | 5x", "30: 'b", "31: 'b 'b", "4y: 30 3y");
        Build.tokens(x, "abb");
        ends(x, 0, 0, 0, 4);
        ends(x, 0, 1, 0, 8);
        ends(x, 0, 2, 0, 0);
        for (int v = 0; v <= 3; v++) {
            ends(x, 1, v, 0, 4 | 8);
        }
        Build.tokens(x, "bbb");
        ends(x, 4, 0, 0, 4);
        ends(x, 4, 1, 0, 8);
        ends(x, 4, 2, 0, 0);
    }

    /** "positions i = p0 <= p1 <= .. <= pk = j": neighbours may be equal. */
    static void equalPositions() {
        DcgEngine x = Build.compiled("0x: 1x 1x 1x 1x 1x 1x", "1x: | 'b", "2x: 1x 'a 1x 1x 'a 1x");
        Build.tokens(x, "aba");
        ends(x, 0, 0, 0, 1);
        ends(x, 0, 0, 1, 2 | 4);
        ends(x, 0, 0, 3, 8);
        ends(x, 2, 0, 0, 8);
        Build.tokens(x, "bbbbbbbb");
        ends(x, 0, 0, 0, 127);
        ends(x, 0, 0, 8, 256);
    }

    /** "if bq is TERMINAL with token x, then p(q) = p(q-1)+1 and t[p(q-1)] = x": there is none at the end. */
    static void terminalAtTheEnd() {
        for (int tok = 0; tok <= 15; tok++) {
            DcgEngine x = new DcgEngine(2, 8);
            x.beginRule(0, 4);
            x.addItem(0, tok, 0);
            x.endRule();
            x.beginRule(1, 4);
            x.addItem(0, tok, 0);
            x.addItem(0, tok, 0);
            x.endRule();
            x.compile();
            for (int n = 0; n <= 8; n++) {
                due("one token past the end", x.endMask(0, 0, n), 0);
                due("two tokens past the end", x.endMask(1, 0, n), 0);
                if (n > 0) {
                    due("one token at the end", x.endMask(0, 0, n - 1), 1 << n);
                    due("two tokens at the end", x.endMask(1, 0, n - 1), 0);
                }
                x.addToken(tok);
            }
        }
    }

    /** "if bq is TERMINAL with token x": not one that a longer string had there. */
    static void terminalAfterClearing() {
        DcgEngine x = Build.compiled("0x: 'a 0x |");
        Build.tokens(x, "aaaaaaaa");
        ends(x, 0, 0, 0, 511);
        Build.tokens(x, "aab");
        ends(x, 0, 0, 0, 7);
        Build.tokens(x, "");
        ends(x, 0, 0, 0, 1);
    }

    /** "if bq is NONTERMINAL (m2, c), then D(m2, val(c), p(q-1), p(q)) holds": by each of its ends. */
    static void nonterminalWithManyEnds() {
        DcgEngine x = Build.compiled("0x: 1x 'a", "1x: 'a 1x |", "2x: 'a 2x 'b |", "3x: 'a 3x 3x |");
        Build.tokens(x, "aaaa");
        ends(x, 0, 1, 0, 2 | 4 | 8 | 16);
        ends(x, 0, 1, 2, 8 | 16);
        Build.tokens(x, "aaaabbbb");
        ends(x, 2, 1, 0, 1 | 256);
        ends(x, 2, 1, 2, 4 | 64);
        Build.tokens(x, "aaaaaaaa");
        ends(x, 3, 3, 0, 511);
    }

    /** "A nonterminal with no rules derives nothing." */
    static void withoutRules() {
        DcgEngine x = Build.compiled("0x: 1x", "2x: 'a 1x | 'a");
        Build.tokens(x, "aa");
        for (int v = 0; v <= 3; v++) {
            for (int from = 0; from <= 2; from++) {
                ends(x, 0, v, from, 0);
                ends(x, 1, v, from, 0);
                ends(x, 5, v, from, 0);
                ends(x, 2, v, from, from < 2 ? 2 << from : 0);
            }
        }
    }

    /** "An empty alternative gives the clause m(h,S0,S0)." */
    static void emptyAlternativeDerivesTheEmptySpan() {
        DcgEngine x = Build.compiled("0x:", "12: | 'b", "2y: |");
        Build.tokens(x, "aaaaaaaa");
        for (int from = 0; from <= 8; from++) {
            for (int v = 0; v <= 3; v++) {
                ends(x, 0, v, from, 1 << from);
                ends(x, 1, v, from, v == 2 ? 1 << from : 0);
                ends(x, 2, v, from, 1 << from);
            }
        }
    }

    // ---- Nullable set and left cycles ----

    private static void cycles(int due, String... rules) {
        due(String.join("; ", rules), leftCycles(Build.grammar(rules)), due);
    }

    /** "Both ignore arguments" */
    static void argumentsAreIgnored() {
        cycles(1, "00: 01");
        cycles(3, "00: 11", "12: 03");
        cycles(1, "00: 11 00", "12:");
        cycles(1, "0x: 11 21 0y", "12: 23", "22:");
    }

    /** "and use every stored rule, including the items the open rule has so far" */
    static void everyStoredRuleIsUsed() {
        DcgEngine x = new DcgEngine(12, 8);
        Build.openRule(x, "0x: 1x 0x");
        x.endRule();
        for (int r = 1; r < 11; r++) {
            Build.openRule(x, "1x: 'a");
            x.endRule();
        }
        due("eleven rules", leftCycles(x), 0);
        Build.openRule(x, "1x:");
        due("an open twelfth", leftCycles(x), 1);
        Build.item(x, "2x");
        due("with an item", leftCycles(x), 0);
        Build.item(x, "|");
        due("with a BAR", leftCycles(x), 1);
        x.endRule();
        due("a closed twelfth", leftCycles(x), 1);
    }

    /** "NULLABLE is the least set N of nonterminals": one that vanishes only through itself does not. */
    static void leastNullableSet() {
        cycles(0b000010, "0x: 1x 0x", "1x: 1x");
        cycles(0b000110, "0x: 1x 0x", "1x: 2x", "2x: 1x");
        cycles(0b000011, "0x: 1x 0x", "1x: 1x |");
    }

    /** "m is in N whenever some alternative of some rule with head m consists only of NONTERMINAL items whose nonterminals are all in N": in any order. */
    static void wholeNullableSet() {
        cycles(1, "0x: 1x 0x", "1x: 2x", "2x: 3x", "3x: 4x", "4x: 5x", "5x:");
        cycles(1, "5x:", "4x: 5x", "3x: 4x", "2x: 3x", "1x: 2x", "0x: 1x 0x");
        cycles(2, "1x: 2x 1x", "2x: 3x 4x", "3x: 4x 5x", "4x: 5x 5x", "5x: 'a |");
        cycles(1, "0x: 1x 0x", "1x: 'a | 2x 2x", "1x: 'b", "2x: 'c", "2x:");
        cycles(0, "0x: 1x 0x", "1x: 'a | 2x 3x", "2x:", "3x: 'c");
        cycles(0, "0x: 1x 0x", "1x: 2x 'a", "2x:");
    }

    /** "m is in N whenever some alternative of some rule with head m consists only of NONTERMINAL items whose nonterminals are all in N": each m, and no other. */
    static void eachMayBeNullable() {
        for (int m = 0; m <= 5; m++) {
            for (int m2 = 0; m2 <= 5; m2++) {
                if (m2 != m) {
                    String recursive = m2 + "x: " + m + "x " + m2 + "x";
                    cycles(1 << m2, recursive, m + "x:");
                    cycles(0, recursive, m + "x: 'a");
                    cycles(0, recursive);
                }
            }
        }
    }

    /** "an empty alternative qualifies" */
    static void emptyAlternativeIsNullable() {
        cycles(1, "0x: 1x 0x", "1x:");
        cycles(1, "0x: 1x 0x", "1x: 'a |");
        cycles(1, "0x: 1x 0x", "1x: | 'a");
        cycles(1, "0x: 1x 0x", "1x: 'a | | 'b");
        cycles(0, "0x: 1x 0x", "1x: 'a | 'b");
        cycles(0, "0x: 1x 0x", "1x: 'a");
        cycles(0, "0x: 1x 0x");
    }

    /** "There is an EDGE m -> m2 whenever some alternative of a rule with head m holds a NONTERMINAL item with nonterminal m2 at some place": at each of the six. */
    static void edgeAtEachPlace() {
        for (int place = 0; place < 6; place++) {
            DcgEngine x = Build.grammar("1x:");
            x.beginRule(0, 4);
            for (int k = 0; k < 6; k++) {
                x.addItem(1, k == place ? 0 : 1, 4);
            }
            due("place " + place, leftCycles(x), 1);
        }
    }

    /** "and every item of that alternative before that place is a NONTERMINAL whose nonterminal is in N" */
    static void noEdgeBehindAnItemThatStays() {
        cycles(0, "0x: 'a 0x");
        cycles(0, "0x: 1x 'a 0x", "1x:");
        cycles(0, "0x: 2x 0x", "2x: 'a");
        cycles(0, "0x: 1x 2x 0x", "1x:", "2x: 1x 'a");
        cycles(1, "0x: 1x 2x 0x", "1x:", "2x: 1x 1x");
        cycles(1, "0x: 1x 0x 'a", "1x:");
    }

    /** "every item of that alternative": a BAR starts anew. */
    static void edgeInEachAlternative() {
        cycles(1, "0x: 'a 1x | 0x");
        cycles(1, "0x: | 0x");
        cycles(1, "0x: 'a | 'b | 0x 'c");
        cycles(0, "0x: 1x | 'a 0x", "1x:");
        cycles(4, "2x: 'a | | 3x 2x", "3x: 'b 'c |");
    }

    /** "Nonterminal m is ON A LEFT CYCLE if a path of one or more edges leads from m back to m.": from one to six edges, never none. */
    static void pathLengths() {
        cycles(0, "0x: 1x", "1x: 2x", "2x: 3x", "3x: 4x", "4x: 5x", "5x:");
        for (int edges = 1; edges <= 6; edges++) {
            String[] rules = new String[edges];
            for (int m = 0; m < edges; m++) {
                rules[m] = m + "x: " + (m + 1) % edges + "x";
            }
            cycles((1 << edges) - 1, rules);
        }
    }

    public static void main(String[] args) {
        run(StateTest.class);
    }
}
