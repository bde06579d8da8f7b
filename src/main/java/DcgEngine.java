/**
 * A small definite clause grammar over integer tokens, and the spans of a token string that its
 * nonterminals derive. Positions of the string, values and nonterminals are held as sets in the
 * bits of an int: bit p of a set of positions stands for position p.
 */
public final class DcgEngine {
    public static final int NONTERMINALS = 6;
    public static final int VALUES = 4;
    public static final int TOKENS = 16;
    public static final int MAX_RULES = 12;
    public static final int MAX_TOKENS = 8;
    public static final int MAX_BODY = 6;
    public static final int ARG_X0 = 4;
    public static final int ARG_X1 = 5;
    public static final int ITEM_TERMINAL = 0;
    public static final int ITEM_NONTERMINAL = 1;
    public static final int ITEM_BAR = 2;
    public static final int COMPILE_OK = 0;
    public static final int COMPILE_RULE_OPEN = 1;
    public static final int COMPILE_NO_RULES = 2;
    public static final int COMPILE_LEFT_RECURSIVE = 3;
    public static final int YES = 1;
    public static final int NO = 0;
    public static final int NO_RULE = -1;
    public static final int REFUSED = -2;

    private static final int ARGUMENT_CODES = 6;
    private static final int NOTHING_THERE = -1;

    private static final int HEAD_STEP = 8;
    private static final int OPEN_MARK = 64;
    private static final int NONTERMINAL_MARK = 256;
    private static final int BAR_MARK = 512;

    private static final int ITEM_CELLS = MAX_RULES * MAX_BODY;
    private static final int POSITIONS = MAX_TOKENS + 1;
    private static final int SPAN_CELLS = NONTERMINALS * VALUES * POSITIONS;
    // Every sweep but the last finds a new end for some cell, so no run can need more sweeps.
    private static final int MAX_SWEEPS = SPAN_CELLS * POSITIONS + 1;

    private final int ruleCap;
    private final int tokenCap;

    private final int[] headNonterminal = new int[MAX_RULES];
    private final int[] headArgument = new int[MAX_RULES];
    private final int[] bodyLength = new int[MAX_RULES];
    private int ruleTotal = 0;
    private boolean ruleOpen = false;
    private boolean compiled = false;

    // Item k of rule r is in cell r * MAX_BODY + k; the symbol is a token or a nonterminal.
    private final int[] itemKind = new int[ITEM_CELLS];
    private final int[] itemSymbol = new int[ITEM_CELLS];
    private final int[] itemArgument = new int[ITEM_CELLS];

    private final int[] tokens = new int[MAX_TOKENS];
    private int tokenTotal = 0;

    // While compiled is true, the cell of (m, v, i) has bit j set exactly when D(m, v, i, j) holds.
    // It is brought up to date where rules or tokens change, so that queries only read.
    private final int[] spanEnds = new int[SPAN_CELLS];

    public DcgEngine(int ruleCap, int tokenCap) {
        this.ruleCap = clamped(ruleCap, MAX_RULES);
        this.tokenCap = clamped(tokenCap, MAX_TOKENS);
    }

    private static int clamped(int wanted, int greatest) {
        if (wanted < 1) {
            return 1;
        }
        return wanted > greatest ? greatest : wanted;
    }

    private static boolean within(int number, int count) {
        return number >= 0 && number < count;
    }

    // ---- building the grammar ----

    public boolean beginRule(int nt, int arg) {
        if (ruleOpen || ruleTotal >= ruleCap) {
            return false;
        }
        if (!within(nt, NONTERMINALS) || !within(arg, ARGUMENT_CODES)) {
            return false;
        }
        headNonterminal[ruleTotal] = nt;
        headArgument[ruleTotal] = arg;
        bodyLength[ruleTotal] = 0;
        ruleTotal++;
        ruleOpen = true;
        compiled = false;
        return true;
    }

    public boolean addItem(int kind, int a, int b) {
        if (!ruleOpen || bodyLength[ruleTotal - 1] >= MAX_BODY) {
            return false;
        }
        if (!isItem(kind, a, b)) {
            return false;
        }
        int rule = ruleTotal - 1;
        int cell = rule * MAX_BODY + bodyLength[rule];
        itemKind[cell] = kind;
        itemSymbol[cell] = a;
        itemArgument[cell] = b;
        bodyLength[rule]++;
        return true;
    }

    private static boolean isItem(int kind, int a, int b) {
        switch (kind) {
            case ITEM_TERMINAL:
                return within(a, TOKENS);
            case ITEM_NONTERMINAL:
                return within(a, NONTERMINALS) && within(b, ARGUMENT_CODES);
            default:
                return kind == ITEM_BAR;
        }
    }

    public boolean endRule() {
        if (!ruleOpen) {
            return false;
        }
        ruleOpen = false;
        return true;
    }

    public boolean removeLastRule() {
        if (ruleTotal == 0) {
            return false;
        }
        ruleTotal--;
        ruleOpen = false;
        compiled = false;
        return true;
    }

    public int compile() {
        if (ruleOpen) {
            return COMPILE_RULE_OPEN;
        }
        if (ruleTotal == 0) {
            return COMPILE_NO_RULES;
        }
        for (int nt = 0; nt < NONTERMINALS; nt++) {
            if (onLeftCycle(nt)) {
                return COMPILE_LEFT_RECURSIVE;
            }
        }
        compiled = true;
        deriveSpans();
        return COMPILE_OK;
    }

    // ---- the token string ----

    public boolean addToken(int tok) {
        if (!within(tok, TOKENS) || tokenTotal >= tokenCap) {
            return false;
        }
        tokens[tokenTotal] = tok;
        tokenTotal++;
        deriveSpans();
        return true;
    }

    public void clearTokens() {
        tokenTotal = 0;
        deriveSpans();
    }

    // ---- queries ----

    public int prove(int nt, int v, int from, int to) {
        if (isRefused(nt, v, from, to)) {
            return REFUSED;
        }
        return (spanEnds[spanCell(nt, v, from)] >> to & 1) == 1 ? YES : NO;
    }

    public int answerMask(int nt) {
        if (!compiled || !within(nt, NONTERMINALS)) {
            return REFUSED;
        }
        int values = 0;
        for (int v = 0; v < VALUES; v++) {
            values |= (spanEnds[spanCell(nt, v, 0)] >> tokenTotal & 1) << v;
        }
        return values;
    }

    public int endMask(int nt, int v, int from) {
        if (isRefused(nt, v, from, tokenTotal)) {
            return REFUSED;
        }
        return spanEnds[spanCell(nt, v, from)];
    }

    public int firstRule(int nt, int v, int from, int to) {
        if (isRefused(nt, v, from, to)) {
            return REFUSED;
        }
        for (int r = 0; r < ruleTotal; r++) {
            if (headNonterminal[r] == nt) {
                int ends = ruleEnds(r, v, from);
                if ((ends >> to & 1) == 1) {
                    return r;
                }
            }
        }
        return NO_RULE;
    }

    private boolean isRefused(int nt, int v, int from, int to) {
        return !compiled || !within(nt, NONTERMINALS) || !within(v, VALUES)
                || from < 0 || from > to || to > tokenTotal;
    }

    public boolean onLeftCycle(int nt) {
        if (!within(nt, NONTERMINALS)) {
            return false;
        }
        int nullable = nullableSet();
        int reached = leftTargets(1 << nt, nullable);
        // A shortest way back has at most one edge for each nonterminal, and one is taken above.
        for (int edges = 1; edges < NONTERMINALS; edges++) {
            reached |= leftTargets(reached, nullable);
        }
        return (reached >> nt & 1) == 1;
    }

    public int ruleHead(int r) {
        if (!within(r, ruleTotal)) {
            return NOTHING_THERE;
        }
        int head = headNonterminal[r] * HEAD_STEP + headArgument[r];
        return ruleOpen && r == ruleTotal - 1 ? head + OPEN_MARK : head;
    }

    public int item(int r, int k) {
        if (!within(r, ruleTotal) || !within(k, bodyLength[r])) {
            return NOTHING_THERE;
        }
        int cell = r * MAX_BODY + k;
        switch (itemKind[cell]) {
            case ITEM_TERMINAL:
                return itemSymbol[cell];
            case ITEM_NONTERMINAL:
                return NONTERMINAL_MARK + itemSymbol[cell] * HEAD_STEP + itemArgument[cell];
            default:
                return BAR_MARK;
        }
    }

    public int tokenCount() {
        return tokenTotal;
    }

    public int token(int i) {
        return within(i, tokenTotal) ? tokens[i] : NOTHING_THERE;
    }

    // ---- the nullable set and the left edges ----

    private int nullableSet() {
        int nullable = 0;
        // Every round before the set is whole adds a member, so as many rounds as members do.
        for (int round = 0; round < NONTERMINALS; round++) {
            for (int r = 0; r < ruleTotal; r++) {
                if (hasNullableAlternative(r, nullable)) {
                    nullable |= 1 << headNonterminal[r];
                }
            }
        }
        return nullable;
    }

    private boolean hasNullableAlternative(int r, int nullable) {
        boolean allNullable = true;
        for (int k = 0; k < bodyLength[r]; k++) {
            int cell = r * MAX_BODY + k;
            if (itemKind[cell] == ITEM_BAR) {
                if (allNullable) {
                    return true;
                }
                allNullable = true;
            } else if (!isNullableItem(cell, nullable)) {
                allNullable = false;
            }
        }
        return allNullable;
    }

    private boolean isNullableItem(int cell, int nullable) {
        return itemKind[cell] == ITEM_NONTERMINAL && (nullable >> itemSymbol[cell] & 1) == 1;
    }

    private int leftTargets(int sources, int nullable) {
        int targets = 0;
        for (int r = 0; r < ruleTotal; r++) {
            if ((sources >> headNonterminal[r] & 1) == 1) {
                targets |= leftTargetsOfRule(r, nullable);
            }
        }
        return targets;
    }

    private int leftTargetsOfRule(int r, int nullable) {
        int targets = 0;
        boolean allNullableBefore = true;
        for (int k = 0; k < bodyLength[r]; k++) {
            int cell = r * MAX_BODY + k;
            if (itemKind[cell] == ITEM_BAR) {
                allNullableBefore = true;
            } else {
                if (allNullableBefore && itemKind[cell] == ITEM_NONTERMINAL) {
                    targets |= 1 << itemSymbol[cell];
                }
                allNullableBefore = allNullableBefore && isNullableItem(cell, nullable);
            }
        }
        return targets;
    }

    // ---- the derivation relation ----

    private static int spanCell(int nt, int v, int from) {
        return (nt * VALUES + v) * POSITIONS + from;
    }

    private void deriveSpans() {
        // No query reads the relation before the next compile, which derives it anew.
        if (!compiled) {
            return;
        }
        for (int cell = 0; cell < SPAN_CELLS; cell++) {
            spanEnds[cell] = 0;
        }
        // What grows from the empty relation until the rules add nothing more is the least one.
        boolean grown = true;
        for (int sweep = 0; sweep < MAX_SWEEPS && grown; sweep++) {
            grown = growSpans();
        }
    }

    private boolean growSpans() {
        boolean grown = false;
        // Spans rest on spans that start no earlier: going from the last start needs few sweeps.
        for (int from = tokenTotal; from >= 0; from--) {
            for (int r = 0; r < ruleTotal; r++) {
                for (int v = 0; v < VALUES; v++) {
                    int cell = spanCell(headNonterminal[r], v, from);
                    int ends = spanEnds[cell] | ruleEnds(r, v, from);
                    grown = grown || ends != spanEnds[cell];
                    spanEnds[cell] = ends;
                }
            }
        }
        return grown;
    }

    private int ruleEnds(int r, int v, int from) {
        int ends = 0;
        for (int x0 = 0; x0 < VALUES; x0++) {
            for (int x1 = 0; x1 < VALUES; x1++) {
                if (argumentValue(headArgument[r], x0, x1) == v) {
                    ends |= bodyEnds(r, x0, x1, from);
                }
            }
        }
        return ends;
    }

    // All alternatives may share the assignment here: ruleEnds tries every one that fits the head,
    // so each alternative still meets each of its own.
    private int bodyEnds(int r, int x0, int x1, int from) {
        int ends = 0;
        int places = 1 << from;
        for (int k = 0; k < bodyLength[r]; k++) {
            int cell = r * MAX_BODY + k;
            if (itemKind[cell] == ITEM_BAR) {
                ends |= places;
                places = 1 << from;
            } else if (itemKind[cell] == ITEM_TERMINAL) {
                places = placesAfterToken(places, itemSymbol[cell]);
            } else {
                int v = argumentValue(itemArgument[cell], x0, x1);
                places = placesAfterNonterminal(places, itemSymbol[cell], v);
            }
        }
        return ends | places;
    }

    private static int argumentValue(int code, int x0, int x1) {
        if (code == ARG_X0) {
            return x0;
        }
        return code == ARG_X1 ? x1 : code;
    }

    private int placesAfterToken(int places, int tok) {
        int after = 0;
        for (int p = 0; p < tokenTotal; p++) {
            if ((places >> p & 1) == 1 && tokens[p] == tok) {
                after |= 1 << (p + 1);
            }
        }
        return after;
    }

    private int placesAfterNonterminal(int places, int nt, int v) {
        int firstCell = (nt * VALUES + v) * POSITIONS;
        int after = 0;
        for (int p = 0; p <= tokenTotal; p++) {
            if ((places >> p & 1) == 1) {
                after |= spanEnds[firstCell + p];
            }
        }
        return after;
    }
}
