import java.util.ArrayList;
import java.util.HashMap;
import java.util.List;
import java.util.Map;
import java.util.Set;
import java.util.TreeSet;

/**
 * The document once more, by other means than the program's: derivations are looked for from the
 * top down, the nullable set is the meet of all closed sets, and cycles come from a closed matrix.
 */
final class Model {
    record Item(int kind, int a, int b) {
    }

    static final class Rule {
        final int nt;
        final int arg;
        final List<Item> body = new ArrayList<>();

        Rule(int nt, int arg) {
            this.nt = nt;
            this.arg = arg;
        }

        List<List<Item>> alternatives() {
            List<List<Item>> all = new ArrayList<>();
            all.add(new ArrayList<>());
            for (Item item : body) {
                if (item.kind == 2) {
                    all.add(new ArrayList<>());
                } else {
                    all.get(all.size() - 1).add(item);
                }
            }
            return all;
        }
    }

    private final int ruleCap;
    private final int tokenCap;
    private final List<Rule> rules = new ArrayList<>();
    private final List<Integer> tokens = new ArrayList<>();
    private boolean open = false;
    private boolean compiled = false;
    private final Map<List<Integer>, Set<Integer>> known = new HashMap<>();

    Model(int ruleCap, int tokenCap) {
        this.ruleCap = Math.max(1, Math.min(12, ruleCap));
        this.tokenCap = Math.max(1, Math.min(8, tokenCap));
    }

    private static boolean in(int number, int least, int greatest) {
        return least <= number && number <= greatest;
    }

    boolean beginRule(int nt, int arg) {
        if (open || rules.size() == ruleCap || !in(nt, 0, 5) || !in(arg, 0, 5)) {
            return false;
        }
        rules.add(new Rule(nt, arg));
        open = true;
        compiled = false;
        return true;
    }

    boolean addItem(int kind, int a, int b) {
        if (!open || rules.get(rules.size() - 1).body.size() == 6 || !in(kind, 0, 2)) {
            return false;
        }
        if (kind == 0 && !in(a, 0, 15) || kind == 1 && !(in(a, 0, 5) && in(b, 0, 5))) {
            return false;
        }
        return rules.get(rules.size() - 1).body.add(new Item(kind, a, b));
    }

    boolean endRule() {
        boolean was = open;
        open = false;
        return was;
    }

    boolean removeLastRule() {
        if (rules.isEmpty()) {
            return false;
        }
        rules.remove(rules.size() - 1);
        open = false;
        compiled = false;
        return true;
    }

    int compile() {
        if (open) {
            return 1;
        }
        if (rules.isEmpty()) {
            return 2;
        }
        boolean[][] paths = leftPaths();
        for (int m = 0; m < 6; m++) {
            if (paths[m][m]) {
                return 3;
            }
        }
        compiled = true;
        known.clear();
        return 0;
    }

    boolean addToken(int tok) {
        if (!in(tok, 0, 15) || tokens.size() == tokenCap) {
            return false;
        }
        known.clear();
        return tokens.add(tok);
    }

    void clearTokens() {
        known.clear();
        tokens.clear();
    }

    // ---- nullable set and left cycles ----

    private boolean closed(int set) {
        for (Rule rule : rules) {
            for (List<Item> alternative : rule.alternatives()) {
                boolean within = alternative.stream().allMatch(item -> isIn(item, set));
                if (within && (set >> rule.nt & 1) == 0) {
                    return false;
                }
            }
        }
        return true;
    }

    private static boolean isIn(Item item, int set) {
        return item.kind == 1 && (set >> item.a & 1) == 1;
    }

    private int nullable() {
        int meet = 63;
        for (int set = 0; set < 64; set++) {
            if (closed(set)) {
                meet &= set;
            }
        }
        return meet;
    }

    private boolean[][] leftPaths() {
        boolean[][] path = new boolean[6][6];
        int nullable = nullable();
        for (Rule rule : rules) {
            for (List<Item> alternative : rule.alternatives()) {
                for (int place = 0; place < alternative.size(); place++) {
                    boolean free = alternative.subList(0, place).stream().allMatch(item -> isIn(item, nullable));
                    if (free && alternative.get(place).kind == 1) {
                        path[rule.nt][alternative.get(place).a] = true;
                    }
                }
            }
        }
        for (int via = 0; via < 6; via++) {
            for (int m = 0; m < 6; m++) {
                for (int n = 0; n < 6; n++) {
                    path[m][n] |= path[m][via] && path[via][n];
                }
            }
        }
        return path;
    }

    boolean onLeftCycle(int nt) {
        return in(nt, 0, 5) && leftPaths()[nt][nt];
    }

    // ---- derivations ----

    private static int value(int code, int x0, int x1) {
        return code == 4 ? x0 : code == 5 ? x1 : code;
    }

    private void walk(List<Item> rest, int x0, int x1, int at, Set<Integer> ends) {
        if (rest.isEmpty()) {
            ends.add(at);
            return;
        }
        Item first = rest.get(0);
        List<Item> others = rest.subList(1, rest.size());
        if (first.kind == 0) {
            if (at < tokens.size() && tokens.get(at) == first.a) {
                walk(others, x0, x1, at + 1, ends);
            }
        } else {
            for (int next : derived(first.a, value(first.b, x0, x1), at)) {
                walk(others, x0, x1, next, ends);
            }
        }
    }

    private Set<Integer> derivedBy(Rule rule, int v, int from) {
        Set<Integer> ends = new TreeSet<>();
        for (List<Item> alternative : rule.alternatives()) {
            for (int s = 0; s < 16; s++) {
                if (value(rule.arg, s / 4, s % 4) == v) {
                    walk(alternative, s / 4, s % 4, from, ends);
                }
            }
        }
        return ends;
    }

    /** Ends, since a compiled grammar has no left cycle. */
    private Set<Integer> derived(int nt, int v, int from) {
        List<Integer> goal = List.of(nt, v, from);
        Set<Integer> ends = known.get(goal);
        if (ends == null) {
            ends = new TreeSet<>();
            for (Rule rule : rules) {
                if (rule.nt == nt) {
                    ends.addAll(derivedBy(rule, v, from));
                }
            }
            known.put(goal, ends);
        }
        return ends;
    }

    private boolean refused(int nt, int v, int from, int to) {
        boolean span = 0 <= from && from <= to && to <= tokens.size();
        return !(compiled && in(nt, 0, 5) && in(v, 0, 3) && span);
    }

    int prove(int nt, int v, int from, int to) {
        if (refused(nt, v, from, to)) {
            return -2;
        }
        return derived(nt, v, from).contains(to) ? 1 : 0;
    }

    int answerMask(int nt) {
        if (!compiled || !in(nt, 0, 5)) {
            return -2;
        }
        int sum = 0;
        for (int v = 0; v < 4; v++) {
            sum += derived(nt, v, 0).contains(tokens.size()) ? 1 << v : 0;
        }
        return sum;
    }

    int endMask(int nt, int v, int from) {
        if (!compiled || !in(nt, 0, 5) || !in(v, 0, 3) || !in(from, 0, tokens.size())) {
            return -2;
        }
        int sum = 0;
        for (int end : derived(nt, v, from)) {
            sum += 1 << end;
        }
        return sum;
    }

    int firstRule(int nt, int v, int from, int to) {
        if (refused(nt, v, from, to)) {
            return -2;
        }
        for (int r = 0; r < rules.size(); r++) {
            if (rules.get(r).nt == nt && derivedBy(rules.get(r), v, from).contains(to)) {
                return r;
            }
        }
        return -1;
    }

    // ---- reading ----

    int ruleHead(int r) {
        if (!in(r, 0, rules.size() - 1)) {
            return -1;
        }
        boolean isOpen = open && r == rules.size() - 1;
        return rules.get(r).nt * 8 + rules.get(r).arg + (isOpen ? 64 : 0);
    }

    int item(int r, int k) {
        if (!in(r, 0, rules.size() - 1) || !in(k, 0, rules.get(r).body.size() - 1)) {
            return -1;
        }
        Item item = rules.get(r).body.get(k);
        return item.kind == 0 ? item.a : item.kind == 1 ? 256 + item.a * 8 + item.b : 512;
    }

    int tokenCount() {
        return tokens.size();
    }

    int token(int i) {
        return in(i, 0, tokens.size() - 1) ? tokens.get(i) : -1;
    }
}
