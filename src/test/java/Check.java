import java.util.Arrays;

/** Compares answers with the ones that are due, and ends a test with exit code 1 if one is wrong. */
final class Check {
    /** Every edge of every range that the document names, and the ends of int. */
    static final int[] ODD_NUMBERS = {
        Integer.MIN_VALUE, Integer.MIN_VALUE + 1, -65536, -9, -8, -2, -1, 0, 1, 2, 3, 4, 5, 6, 7, 8, 9,
        11, 12, 13, 15, 16, 17, 31, 32, 33, 64, 256, 65536, Integer.MAX_VALUE - 1, Integer.MAX_VALUE
    };

    private static final int MOST_LINES = 40;

    private int made = 0;
    private int wrong = 0;

    void due(String call, long got, long want) {
        made++;
        if (got != want) {
            wrong++;
            if (wrong <= MOST_LINES) {
                System.out.println("  " + call + " answered " + got + ", due is " + want);
            }
        }
    }

    void due(String call, boolean got, boolean want) {
        due(call, got ? 1L : 0L, want ? 1L : 0L);
    }

    /** All that the queries tell of an object, but for the derivations of a compiled one. */
    static int[] state(DcgEngine x) {
        int[] told = new int[200];
        int n = 0;
        for (int r = -1; r <= DcgEngine.MAX_RULES; r++) {
            told[n++] = x.ruleHead(r);
            for (int k = -1; k <= DcgEngine.MAX_BODY; k++) {
                told[n++] = x.item(r, k);
            }
        }
        for (int i = -1; i <= DcgEngine.MAX_TOKENS; i++) {
            told[n++] = x.token(i);
        }
        for (int nt = -1; nt <= DcgEngine.NONTERMINALS; nt++) {
            told[n++] = x.onLeftCycle(nt) ? 1 : 0;
        }
        told[n++] = x.tokenCount();
        // Refused exactly when the object is not compiled.
        told[n++] = x.answerMask(0) == DcgEngine.REFUSED ? 0 : 1;
        return Arrays.copyOf(told, n);
    }

    void same(String what, int[] before, int[] after) {
        due(what + " changes nothing", Arrays.equals(before, after), true);
    }

    void finish() {
        System.out.println("  " + made + " answers, " + wrong + " not as due");
        if (wrong != 0 || made == 0) {
            System.exit(1);
        }
    }
}
