import java.util.ArrayList;
import java.util.BitSet;
import java.util.HashMap;
import java.util.List;
import java.util.Map;
import java.util.function.Predicate;
import java.util.function.ToIntFunction;

/** Long runs of calls, each answer held against that of a second bench that works by other methods. */
public final class OracleTest {
    private static final int RUNS = 1000;
    private static final int MOST_CALLS = 512;
    /** A text that is too long is typed to its end, too. */
    private static final int LONGEST_TURN = 160;

    private static final int KNOWN_RUNS = 400;
    /** Rules that are known to mend something on some graphs: their ways to good, and bad runs, are longer. */
    private static final String[][] KNOWN = {
        {"i=0&x=l>x+1", "0<i&x#l>l"},
        {"i=0&x+1%=u>x+2", "i=n-1&l=u&l+1%#x>l+1", "0<i&i<n-1&x+1%=l>l", "0<i&i<n-1&x+1%=u>u"},
        {"Ex=y>x+1"},
        {"E(x=y&j<i)>x+1"},
        {"x<M>M"},
        {"m<x>x-1"},
        {"i=0&0<x>0", "0<i&m+1<k&x#m+1>m+1", "0<i&m+1=k&x#m>m"},
        {"x=0&Ay=0>1", "x=1&Ey=1>0", "1<x>0"},
        {"A(!i<j|y=k-1)&!(x=k-1&m=k-1)>x+1"},
        {"A(!i<j|y=0)&(0<x|0<M)>x-1"},
        {"i=0&x<k-1>x+1", "0<i&x<l>x+1"},
        {"i=0&x<k-1&Ax=y>x+1", "0<i&x#l>x+1"},
    };
    private static final String[] AIMS = {"Ax=y", "Ax#y", "x=l", "x=0", "!x<M", "x=k-1|i=0", "0=1", "x<2", "Ay<x+2"};

    private static int wrong = 0;
    private static final Map<String, Integer> ANSWERS = new HashMap<>();

    /** What a part of a text is asked about. */
    private record Place(int[] values, int k, boolean[][] edges, int node, int other) {
        List<Integer> neighbours() {
            List<Integer> all = new ArrayList<>();
            for (int b = 0; b < values.length; b++) {
                if (edges[node][b]) {
                    all.add(b);
                }
            }
            return all;
        }
    }

    /** Finds faults with a stack of what is open, character by character. */
    private static int fault(String text, boolean isRule) {
        StringBuilder open = new StringBuilder();
        String before = "test";
        int side = 0;
        for (int at = 0; at < text.length(); at++) {
            char c = text.charAt(at);
            boolean bound = open.indexOf("A") >= 0 || open.indexOf("E") >= 0;
            boolean part = "0123456789xidmMlunk".indexOf(c) >= 0 || bound && (c == 'y' || c == 'j');
            if (before.equals("test") && "!AE(".indexOf(c) >= 0) {
                if (open.length() == 8 || bound && (c == 'A' || c == 'E')) {
                    return at;
                }
                open.append(c);
                continue;
            }
            if (before.equals("test") || before.equals("sign")) {
                if (!part) {
                    return at;
                }
                before = "part";
                continue;
            }
            if (before.equals("part") && (c == '+' || c == '-')) {
                before = "sign";
                continue;
            }
            if (before.equals("part") && c == '%') {
                before = "wrap";
                continue;
            }
            if (side == 0 && !before.equals("close")) {
                if (c != '=' && c != '#' && c != '<') {
                    return at;
                }
                side = 1;
                before = "sign";
                continue;
            }
            if (side == 2) {
                return at;
            }
            endTests(open);
            if (c == ')' && open.length() > 0) {
                open.setLength(open.length() - 1);
                before = "close";
            } else if (c == '&' || c == '|') {
                before = "test";
                side = 0;
            } else if (c == '>' && isRule && open.length() == 0) {
                before = "sign";
                side = 2;
            } else {
                return at;
            }
        }
        if (before.equals("test") || before.equals("sign") || side == 0 && !before.equals("close")) {
            return text.length();
        }
        endTests(open);
        return open.length() > 0 || isRule && side != 2 ? text.length() : -1;
    }

    private static void endTests(StringBuilder open) {
        while (open.length() > 0 && open.charAt(open.length() - 1) != '(') {
            open.setLength(open.length() - 1);
        }
    }

    private static List<String> split(String text, char between) {
        List<String> all = new ArrayList<>();
        int depth = 0;
        int from = 0;
        for (int i = 0; i < text.length(); i++) {
            char c = text.charAt(i);
            depth += c == '(' ? 1 : c == ')' ? -1 : 0;
            if (c == between && depth == 0) {
                all.add(text.substring(from, i));
                from = i + 1;
            }
        }
        all.add(text.substring(from));
        return all;
    }

    private static Predicate<Place> guard(String text) {
        List<String> boths = split(text, '|');
        if (boths.size() > 1) {
            return boths.stream().map(OracleTest::guard).reduce(p -> false, Predicate::or);
        }
        List<String> tests = split(text, '&');
        if (tests.size() > 1) {
            return tests.stream().map(OracleTest::guard).reduce(p -> true, Predicate::and);
        }
        String rest = text.substring(1);
        switch (text.charAt(0)) {
            case '!':
                return guard(rest).negate();
            case 'A':
                return ofNeighbours(guard(rest).negate()).negate();
            case 'E':
                return ofNeighbours(guard(rest));
            case '(':
                return guard(rest.substring(0, rest.length() - 1));
            default:
                return comparison(text);
        }
    }

    private static Predicate<Place> ofNeighbours(Predicate<Place> test) {
        return p -> p.neighbours().stream().anyMatch(b -> test.test(new Place(p.values, p.k, p.edges, p.node, b)));
    }

    private static Predicate<Place> comparison(String text) {
        int at = Math.max(text.indexOf('='), Math.max(text.indexOf('#'), text.indexOf('<')));
        ToIntFunction<Place> left = sum(text.substring(0, at));
        ToIntFunction<Place> right = sum(text.substring(at + 1));
        char sign = text.charAt(at);
        return p -> {
            int order = Integer.signum(left.applyAsInt(p) - right.applyAsInt(p));
            return sign == '=' ? order == 0 : sign == '#' ? order != 0 : order < 0;
        };
    }

    /** The last sign parts a sum in two, which is the same as from the left on. */
    private static ToIntFunction<Place> sum(String text) {
        if (text.endsWith("%")) {
            ToIntFunction<Place> inner = sum(text.substring(0, text.length() - 1));
            return p -> wrap(inner.applyAsInt(p), p.k);
        }
        int at = Math.max(text.lastIndexOf('+'), text.lastIndexOf('-'));
        if (at < 0) {
            char c = text.charAt(0);
            return p -> part(c, p);
        }
        ToIntFunction<Place> left = sum(text.substring(0, at));
        ToIntFunction<Place> right = sum(text.substring(at + 1));
        return text.charAt(at) == '+'
            ? p -> left.applyAsInt(p) + right.applyAsInt(p)
            : p -> left.applyAsInt(p) - right.applyAsInt(p);
    }

    private static int wrap(int x, int k) {
        return (x % k + k) % k;
    }

    private static int part(char c, Place p) {
        int n = p.values.length;
        switch (c) {
            case 'x': return p.values[p.node];
            case 'i': return p.node;
            case 'd': return p.neighbours().size();
            case 'm': return p.neighbours().stream().mapToInt(b -> p.values[b]).min().orElse(p.k);
            case 'M': return p.neighbours().stream().mapToInt(b -> p.values[b]).max().orElse(-1);
            case 'l': return p.values[(p.node + n - 1) % n];
            case 'u': return p.values[(p.node + 1) % n];
            case 'n': return n;
            case 'k': return p.k;
            case 'y': return p.values[p.other];
            case 'j': return p.other;
            default: return Character.digit(c, 10);
        }
    }

    /** The second bench: each answer is worked out anew from the document's terms, by sets of states. */
    private static final class Oracle {
        int k = 2;
        int[] values = new int[2];
        boolean[][] edges = new boolean[2][2];
        List<String> rules = new ArrayList<>();
        List<Predicate<Place>> guards = new ArrayList<>();
        int kind = 1;
        Predicate<Place> aimed;
        int scheduler;
        String text = "";
        int steps;
        int moves;
        Found found;

        /** What a search has found. */
        record Found(int verdict, int[] far, List<Integer> bad, int goods) { }

        int states() {
            int states = 1;
            for (int i = 0; i < values.length; i++) {
                states *= k;
            }
            return states;
        }

        int number(int[] row) {
            int number = 0;
            for (int x : row) {
                number = number * k + x;
            }
            return number;
        }

        int[] row(int number) {
            int[] row = new int[values.length];
            for (int a = row.length - 1; a >= 0; a--) {
                row[a] = number % k;
                number /= k;
            }
            return row;
        }

        int enabled(int[] row, int a) {
            Place p = new Place(row, k, edges, a, -1);
            for (int i = 0; i < guards.size(); i++) {
                if (guards.get(i).test(p)) {
                    return i + 1;
                }
            }
            return 0;
        }

        int able(int[] row) {
            int able = 0;
            for (int a = 0; a < row.length; a++) {
                able += enabled(row, a) > 0 ? 1 << a : 0;
            }
            return able;
        }

        boolean good(int[] row) {
            if (kind == 2) {
                for (int a = 0; a < row.length; a++) {
                    if (!aimed.test(new Place(row, k, edges, a, -1))) {
                        return false;
                    }
                }
                return true;
            }
            return Integer.bitCount(able(row)) == 1 - kind;
        }

        List<Integer> choices(int able) {
            List<Integer> choices = new ArrayList<>();
            for (int c = 1; c < 1 << values.length; c++) {
                boolean subset = (c | able) == able;
                if (subset && (scheduler == 2 || scheduler == 1 && c == able || scheduler == 0 && (c & c - 1) == 0)) {
                    choices.add(c);
                }
            }
            return choices;
        }

        int[] step(int[] row, int choice) {
            int[] next = row.clone();
            for (int a = 0; a < row.length; a++) {
                if ((choice & 1 << a) != 0) {
                    String rule = rules.get(enabled(row, a) - 1);
                    String sum = rule.substring(rule.indexOf('>') + 1);
                    next[a] = wrap(sum(sum).applyAsInt(new Place(row, k, edges, a, -1)), k);
                }
            }
            return next;
        }

        Found found() {
            if (found == null) {
                found = find();
            }
            return found;
        }

        Found find() {
            int all = states();
            BitSet good = new BitSet();
            int[][] next = new int[all][];
            for (int s = 0; s < all; s++) {
                int[] row = row(s);
                good.set(s, good(row));
                int[] alone = new int[row.length];
                int able = able(row);
                for (int a = 0; a < row.length; a++) {
                    alone[a] = (able & 1 << a) == 0 ? row[a] : step(row, 1 << a)[a];
                }
                next[s] = choices(able).stream().mapToInt(c -> {
                    int[] after = row.clone();
                    for (int a = 0; a < after.length; a++) {
                        after[a] = (c & 1 << a) == 0 ? row[a] : alone[a];
                    }
                    return number(after);
                }).toArray();
            }
            for (int s = good.nextSetBit(0); s >= 0; s = good.nextSetBit(s + 1)) {
                for (int t : next[s]) {
                    if (!good.get(t)) {
                        return new Found(1, null, List.of(s, t), good.cardinality());
                    }
                }
            }
            for (int s = 0; s < all; s++) {
                if (!good.get(s) && next[s].length == 0) {
                    return new Found(2, null, List.of(s), good.cardinality());
                }
            }
            return peel(good, next);
        }

        /** Takes away, round by round, the states all of whose steps lead to what has been taken away. */
        Found peel(BitSet good, int[][] next) {
            BitSet left = new BitSet();
            left.set(0, next.length);
            left.andNot(good);
            int[] far = new int[next.length];
            for (int round = 1;; round++) {
                BitSet gone = new BitSet();
                for (int s = left.nextSetBit(0); s >= 0; s = left.nextSetBit(s + 1)) {
                    boolean stays = false;
                    for (int t : next[s]) {
                        stays |= left.get(t);
                    }
                    gone.set(s, !stays);
                }
                if (gone.isEmpty()) {
                    break;
                }
                for (int s = gone.nextSetBit(0); s >= 0; s = gone.nextSetBit(s + 1)) {
                    far[s] = round;
                }
                left.andNot(gone);
            }
            if (left.isEmpty()) {
                return new Found(0, far, List.of(), good.cardinality());
            }
            List<Integer> bad = new ArrayList<>();
            int s = left.nextSetBit(0);
            while (!bad.contains(s)) {
                bad.add(s);
                int t = 0;
                while (!left.get(next[s][t])) {
                    t++;
                }
                s = next[s][t];
            }
            bad.add(s);
            return new Found(3, far, bad, good.cardinality());
        }

        int rule() {
            String typed = text;
            text = "";
            if (rules.size() == 6) {
                return -2;
            }
            int fault = fault(typed, true);
            if (fault >= 0) {
                return -10 - fault;
            }
            rules.add(typed);
            guards.add(guard(typed.substring(0, typed.indexOf('>'))));
            found = null;
            return rules.size();
        }

        int aim(int newKind) {
            if (newKind < 0 || newKind > 2) {
                return -1;
            }
            if (newKind == 2) {
                String typed = text;
                text = "";
                int fault = fault(typed, false);
                if (fault >= 0) {
                    return -10 - fault;
                }
                aimed = guard(typed);
            }
            kind = newKind;
            found = null;
            return 0;
        }

        int graph(int n, int newK) {
            if (n < 2 || n > 5 || newK < 2 || newK > 4) {
                return -1;
            }
            k = newK;
            values = new int[n];
            edges = new boolean[n][n];
            rules.clear();
            guards.clear();
            kind = 1;
            steps = 0;
            moves = 0;
            found = null;
            return states();
        }

        int edge(int a, int b) {
            int n = values.length;
            if (a < 0 || b < 0 || a >= n || b >= n || a == b || edges[a][b]) {
                return -1;
            }
            edges[a][b] = true;
            edges[b][a] = true;
            found = null;
            return edgeCount();
        }

        int edgeCount() {
            int both = 0;
            for (boolean[] row : edges) {
                for (boolean e : row) {
                    both += e ? 1 : 0;
                }
            }
            return both / 2;
        }

        int type(int c) {
            if (c < 32 || c > 126) {
                return -1;
            }
            if (text.length() == 48) {
                return -2;
            }
            text += (char) c;
            return text.length();
        }

        int drop() {
            if (rules.isEmpty()) {
                return -1;
            }
            rules.remove(rules.size() - 1);
            guards.remove(guards.size() - 1);
            found = null;
            return rules.size();
        }

        int scheduler(int newKind) {
            if (newKind < 0 || newKind > 2) {
                return -1;
            }
            int before = scheduler;
            scheduler = newKind;
            found = null;
            return before;
        }

        int set(int a, int x) {
            if (a < 0 || a >= values.length || x < 0 || x >= k) {
                return -1;
            }
            int before = values[a];
            values[a] = x;
            steps = 0;
            moves = 0;
            return before;
        }

        int fire(int choice) {
            if (!choices(able(values)).contains(choice)) {
                return -1;
            }
            values = step(values, choice);
            steps++;
            moves += Integer.bitCount(choice);
            return number(values);
        }

        int count(int what) {
            int[] counts = {steps, moves, values.length, edgeCount(), rules.size(), k, text.length()};
            return what < 0 || what >= counts.length ? -1 : counts[what];
        }
    }

    /** Numbers that look random but are the same each time. */
    private static final class Dice {
        private long seed;

        Dice(long seed) {
            this.seed = seed * 0x9E3779B97F4A7C15L + 1;
        }

        int below(int n) {
            seed = seed * 6364136223846793005L + 1442695040888963407L;
            return (int) ((seed >>> 33) % n);
        }

        boolean once(int in) {
            return below(in) == 0;
        }

        char of(String letters) {
            return letters.charAt(below(letters.length()));
        }

        String part(boolean bound) {
            return String.valueOf(once(3) ? of("0123") : once(2) ? 'x' : of(bound ? "yyyjidmMlunk9" : "idmMlunk94"));
        }

        String sum(boolean bound) {
            StringBuilder s = new StringBuilder(part(bound));
            while (once(3)) {
                s.append(of("+-")).append(part(bound));
            }
            return s.append(once(4) ? "%" : "").toString();
        }

        String test(int depth, boolean bound) {
            if (depth < 9 && once(6)) {
                return "!" + test(depth + 1, bound);
            }
            if (depth < 9 && once(6)) {
                return "(" + guard(depth + 1, bound) + ")";
            }
            if ((!bound || once(30)) && once(3)) {
                return of("AE") + test(depth + 1, true);
            }
            return sum(bound) + of("=#<") + sum(bound);
        }

        String guard(int depth, boolean bound) {
            StringBuilder s = new StringBuilder(test(depth, bound));
            while (once(3)) {
                s.append(of("&|")).append(test(depth, bound));
            }
            return s.toString();
        }

        String text(boolean isRule) {
            String opened = once(12) ? "!(!(!(!(!".substring(below(9)) : "";
            String s = opened + guard(0, false) + ")".repeat(opened.replace("!", "").length());
            s += isRule ? ">" + sum(false) : "";
            if (once(5)) {
                int at = below(s.length() + 1);
                s = s.substring(0, at) + (once(3) ? "" : of("xyjAE!()&|=#<>+-%0 ")) + s.substring(once(2) ? at : Math.min(at + 1, s.length()));
            }
            return s;
        }
    }

    private final HealBench bench = new HealBench();
    private final Oracle oracle = new Oracle();
    private final Dice dice;
    private final List<String> calls = new ArrayList<>();

    private OracleTest(int run) {
        dice = new Dice(run);
    }

    private void due(String call, int got, int want) {
        calls.add(call + " -> " + got);
        if (got != want) {
            wrong++;
            System.out.println(String.join("\n", calls));
            System.out.println("the last answered " + got + ", due is " + want);
        }
    }

    private void say(String text) {
        for (char c : text.toCharArray()) {
            due("type(" + c + ")", bench.type(c), oracle.type(c));
        }
    }

    private void change() {
        int n = oracle.values.length;
        switch (dice.below(12)) {
            case 0:
                if (dice.once(3)) {
                    int nodes = dice.once(10) ? dice.below(9) : 2 + dice.below(dice.once(6) ? 4 : 3);
                    int k = dice.once(10) ? dice.below(7) : 2 + dice.below(dice.once(6) ? 3 : 2);
                    due("graph(" + nodes + ", " + k + ")", bench.graph(nodes, k), oracle.graph(nodes, k));
                }
                break;
            case 1: case 2: case 3:
                int a = dice.below(n + 2) - 1;
                int b = dice.below(n + 2) - 1;
                due("edge(" + a + ", " + b + ")", bench.edge(a, b), oracle.edge(a, b));
                break;
            case 4: case 5:
                say(dice.text(true));
                due("rule()", bench.rule(), oracle.rule());
                ANSWERS.merge("rules", 1, Integer::sum);
                break;
            case 6:
                say(dice.text(false));
                due("aim(2)", bench.aim(2), oracle.aim(2));
                break;
            case 7:
                int kind = dice.below(dice.once(4) ? 5 : 2) - (dice.once(9) ? 1 : 0);
                due("aim(" + kind + ")", bench.aim(kind), oracle.aim(kind));
                break;
            case 8:
                int scheduler = dice.below(5) - 1;
                due("scheduler(" + scheduler + ")", bench.scheduler(scheduler), oracle.scheduler(scheduler));
                break;
            case 9:
                due("drop()", bench.drop(), oracle.drop());
                break;
            case 10:
                int c = dice.once(2) ? 28 + dice.below(103) : dice.of("x=0>");
                due("type(" + c + ")", bench.type(c), oracle.type(c));
                break;
            default:
                int node = dice.below(n + 2) - 1;
                int x = dice.below(oracle.k + 2) - 1;
                due("set(" + node + ", " + x + ")", bench.set(node, x), oracle.set(node, x));
        }
    }

    private void move() {
        for (int i = dice.below(4); i > 0; i--) {
            List<Integer> choices = oracle.choices(oracle.able(oracle.values));
            boolean any = choices.isEmpty() || dice.once(4);
            int choice = any ? dice.below(36) - 2 : choices.get(dice.below(choices.size()));
            due("fire(" + choice + ")", bench.fire(choice), oracle.fire(choice));
        }
        due("state()", bench.state(), oracle.number(oracle.values));
        due("good()", bench.good() ? 1 : 0, oracle.good(oracle.values) ? 1 : 0);
        int a = dice.below(oracle.values.length + 2) - 1;
        boolean is = a >= 0 && a < oracle.values.length;
        due("value(" + a + ")", bench.value(a), is ? oracle.values[a] : -1);
        due("enabled(" + a + ")", bench.enabled(a), is ? oracle.enabled(oracle.values, a) : -1);
        int what = dice.below(9) - 1;
        due("count(" + what + ")", bench.count(what), oracle.count(what));
    }

    private void find() {
        Oracle.Found found = oracle.found();
        int worst = -1;
        if (found.verdict() == 0) {
            for (int far : found.far()) {
                worst = Math.max(worst, far);
            }
        }
        ANSWERS.merge("verdict " + found.verdict(), 1, Integer::sum);
        ANSWERS.merge("longest way", worst, Math::max);
        ANSWERS.merge("longest bad run", found.bad().size(), Math::max);
        int first = dice.below(5);
        for (int i = 0; i < 5; i++) {
            switch ((first + i) % 5) {
                case 0:
                    due("search()", bench.search(), found.verdict());
                    break;
                case 1:
                    due("worst()", bench.worst(), worst);
                    break;
                case 2:
                    int state = dice.below(oracle.states() + 2) - 1;
                    boolean is = state >= 0 && state < oracle.states() && found.verdict() == 0;
                    due("far(" + state + ")", bench.far(state), is ? found.far()[state] : -1);
                    break;
                case 3:
                    int at = dice.below(found.bad().size() + 2) - 1;
                    boolean in = at >= 0 && at < found.bad().size();
                    due("bad(" + at + ")", bench.bad(at), in ? found.bad().get(at) : -1);
                    break;
                default:
                    due("goods()", bench.goods(), found.goods());
            }
        }
    }

    private void run() {
        int n = 2 + dice.below(4);
        int k = 2 + dice.below(n == 5 ? 2 : 3);
        due("graph(" + n + ", " + k + ")", bench.graph(n, k), oracle.graph(n, k));
        while (calls.size() < MOST_CALLS - LONGEST_TURN && wrong == 0) {
            change();
            if (dice.once(2)) {
                move();
            }
            if (dice.once(4)) {
                find();
            }
        }
    }

    private void link(int shape) {
        int n = oracle.values.length;
        for (int a = 0; a < n; a++) {
            for (int b = a + 1; b < n; b++) {
                boolean line = b == a + 1;
                boolean ring = line || a == 0 && b == n - 1;
                boolean linked = shape == 0 ? line : shape == 1 ? ring : shape == 2 ? a == 0 : shape == 3 || dice.once(2);
                if (linked) {
                    due("edge(" + a + ", " + b + ")", bench.edge(a, b), oracle.edge(a, b));
                }
            }
        }
    }

    private void aimAt(int kind) {
        if (kind == 2) {
            say(AIMS[dice.below(AIMS.length)]);
        }
        due("aim(" + kind + ")", bench.aim(kind), oracle.aim(kind));
    }

    private void runKnown() {
        int n = 2 + dice.below(4);
        int k = 2 + dice.below(3);
        due("graph(" + n + ", " + k + ")", bench.graph(n, k), oracle.graph(n, k));
        link(dice.below(5));
        for (String rule : KNOWN[dice.below(KNOWN.length)]) {
            say(rule);
            due("rule()", bench.rule(), oracle.rule());
        }
        for (int turn = 0; turn < 4 && wrong == 0; turn++) {
            aimAt(dice.below(3));
            int scheduler = dice.below(3);
            due("scheduler(" + scheduler + ")", bench.scheduler(scheduler), oracle.scheduler(scheduler));
            for (int asked = 0; asked < 6; asked++) {
                find();
            }
            move();
        }
    }

    public static void main(String[] args) {
        int runs = args.length > 0 ? Integer.parseInt(args[0]) : RUNS;
        for (int run = 0; run < runs && wrong == 0; run++) {
            new OracleTest(run).run();
        }
        for (int run = 0; run < KNOWN_RUNS && wrong == 0; run++) {
            new OracleTest(runs + run).runKnown();
        }
        System.out.println(runs + " runs and " + KNOWN_RUNS + " with known rules, " + ANSWERS);
        if (wrong != 0) {
            System.exit(1);
        }
    }
}
