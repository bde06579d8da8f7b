/** What the tests of the four derivation queries share. */
abstract class Span extends Check {
    /** 0, 1, 3 and 4 derive a span from every place and for every value; 2 seldom does, and 5 never. */
    static DcgEngine wide(String tokens) {
        DcgEngine x = Build.compiled("0x: 'a 0x |", "1x: 0x 'b |", "23: 'a", "3y: 'b 3y | 0y", "4x: 0x 3x");
        Build.tokens(x, tokens);
        return x;
    }

    /** Objects that are not compiled, each for a reason of its own. */
    static DcgEngine[] uncompiled() {
        DcgEngine begun = Build.compiled("0x:", "1x: 'a");
        begun.beginRule(0, 0);
        DcgEngine closed = Build.compiled("0x:");
        Build.openRule(closed, "1x: 'a");
        closed.endRule();
        DcgEngine removed = Build.compiled("0x:", "1x:");
        removed.removeLastRule();
        DcgEngine emptied = Build.compiled("0x:");
        emptied.removeLastRule();
        DcgEngine recursive = Build.grammar("0x:", "1x: 1x");
        recursive.compile();
        DcgEngine openAtCompile = Build.grammar("0x:");
        openAtCompile.beginRule(1, 0);
        openAtCompile.compile();
        DcgEngine[] all = {
            new DcgEngine(12, 8), Build.grammar("0x:"), begun, closed, removed, emptied, recursive, openAtCompile
        };
        for (DcgEngine x : all) {
            Build.tokens(x, "aa");
        }
        return all;
    }

    static boolean isSpan(DcgEngine x, int nt, int v, int from, int to) {
        return isIn(nt, 0, 5) && isIn(v, 0, 3) && 0 <= from && from <= to && to <= x.tokenCount();
    }

    /** Checks one start by every query: the ends that are due for (nt, v, from). */
    static void ends(DcgEngine x, int nt, int v, int from, int due) {
        String goal = "(" + nt + ", " + v + ", " + from + ")";
        due("endMask" + goal, x.endMask(nt, v, from), due);
        for (int to = from; to <= x.tokenCount(); to++) {
            boolean holds = (due >> to & 1) == 1;
            due("prove" + goal + " to " + to, x.prove(nt, v, from, to), holds ? 1 : 0);
            due("firstRule" + goal + " to " + to, x.firstRule(nt, v, from, to) >= 0, holds);
        }
        if (from == 0) {
            due("answerMask" + goal, x.answerMask(nt) >> v & 1, due >> x.tokenCount() & 1);
        }
    }
}
