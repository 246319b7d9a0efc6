import java.util.Arrays;

/**
 * A bench for rules by which nodes of a graph mend themselves: rules are read as text, run under a
 * scheduler that may choose against them, and all states are searched.
 */
public final class HealBench {
    public static final int NONE = -1;
    public static final int FULL = -2;

    private static final int MOST_NODES = 5;
    private static final int MOST_VALUES = 4;
    private static final int MOST_STATES = 1024;
    private static final int MOST_TYPED = 48;
    private static final int MOST_RULES = 6;
    private static final int MOST_OPEN = 8;
    private static final int MOST_CHOICES = 31;

    private static final int FIRST_TYPED = 32;
    private static final int LAST_TYPED = 126;
    private static final int FAULT_AT_0 = -10;

    private static final int AIM_ONE_ENABLED = 0;
    private static final int AIM_NONE_ENABLED = 1;
    private static final int AIM_GUARD = 2;

    private static final int SCHEDULER_ONE = 0;
    private static final int SCHEDULER_ALL = 1;
    private static final int SCHEDULER_ANY = 2;

    private static final int HEALS = 0;
    private static final int LEAVES_GOOD = 1;
    private static final int STANDS_STILL = 2;
    private static final int GOES_ON = 3;

    private final Graph net;
    private final View view;
    private final Rules rules;
    private final Search finder;
    private final char[] text;
    private int typed;
    private int current;
    private int steps;
    private int moves;

    public HealBench() {
        net = new Graph();
        view = new View(net);
        rules = new Rules();
        finder = new Search(net, rules);
        text = new char[MOST_TYPED];
    }

    public int graph(int n, int k) {
        if (n < 2 || n > MOST_NODES || k < 2 || k > MOST_VALUES) {
            return NONE;
        }
        net.renew(n, k);
        rules.clear();
        finder.forgetMoves();
        current = 0;
        startCounts();
        return net.states;
    }

    public int edge(int a, int b) {
        if (!net.has(a) || !net.has(b) || a == b || net.linked(a, b)) {
            return NONE;
        }
        net.link(a, b);
        finder.forgetMoves();
        return net.edges;
    }

    public int type(int c) {
        if (c < FIRST_TYPED || c > LAST_TYPED) {
            return NONE;
        }
        if (typed >= MOST_TYPED) {
            return FULL;
        }
        text[typed] = (char) c;
        typed++;
        return typed;
    }

    public int rule() {
        Reader reader = takeText();
        if (rules.size >= MOST_RULES) {
            return FULL;
        }
        Test guard = reader.readGuard(0, false);
        reader.need('>');
        Sum sum = reader.readSum(false);
        reader.needEnd();
        if (reader.fault != NONE) {
            return FAULT_AT_0 - reader.fault;
        }
        rules.add(guard, sum);
        finder.forgetMoves();
        return rules.size;
    }

    public int drop() {
        if (rules.size == 0) {
            return NONE;
        }
        rules.removeLast();
        finder.forgetMoves();
        return rules.size;
    }

    public int aim(int kind) {
        if (kind != AIM_ONE_ENABLED && kind != AIM_NONE_ENABLED && kind != AIM_GUARD) {
            return NONE;
        }
        Test guard = null;
        if (kind == AIM_GUARD) {
            Reader reader = takeText();
            guard = reader.readGuard(0, false);
            reader.needEnd();
            if (reader.fault != NONE) {
                return FAULT_AT_0 - reader.fault;
            }
        }
        rules.aimAt(kind, guard);
        finder.forgetVerdict();
        return 0;
    }

    public int scheduler(int kind) {
        if (kind != SCHEDULER_ONE && kind != SCHEDULER_ALL && kind != SCHEDULER_ANY) {
            return NONE;
        }
        int before = finder.scheduler;
        finder.scheduler = kind;
        finder.forgetVerdict();
        return before;
    }

    public int set(int a, int x) {
        if (!net.has(a) || x < 0 || x >= net.k) {
            return NONE;
        }
        int before = net.digit(current, a);
        current += (x - before) * net.weights[a];
        startCounts();
        return before;
    }

    public int value(int a) {
        return net.has(a) ? net.digit(current, a) : NONE;
    }

    public int enabled(int a) {
        if (!net.has(a)) {
            return NONE;
        }
        view.load(current);
        view.standAt(a);
        return rules.first(view) + 1;
    }

    public int fire(int choice) {
        lookAround();
        if (!finder.allows(view.able, choice)) {
            return NONE;
        }
        for (int node = 0; node < net.n; node++) {
            if ((choice >> node & 1) != 0) {
                current += view.shifts[node];
                moves++;
            }
        }
        steps++;
        return current;
    }

    public boolean good() {
        lookAround();
        return rules.meetAim(view);
    }

    public int state() {
        return current;
    }

    public int count(int what) {
        switch (what) {
            case 0: return steps;
            case 1: return moves;
            case 2: return net.n;
            case 3: return net.edges;
            case 4: return rules.size;
            case 5: return net.k;
            case 6: return typed;
            default: return NONE;
        }
    }

    public int search() {
        finder.judge();
        return finder.verdict;
    }

    public int worst() {
        finder.judge();
        return finder.verdict == HEALS ? finder.longest : NONE;
    }

    public int far(int state) {
        finder.judge();
        if (finder.verdict != HEALS || state < 0 || state >= net.states) {
            return NONE;
        }
        return finder.distance[state];
    }

    public int bad(int i) {
        finder.judge();
        return i >= 0 && i < finder.runLength ? finder.run[i] : NONE;
    }

    public int goods() {
        finder.judge();
        return finder.goodStates;
    }

    private void startCounts() {
        steps = 0;
        moves = 0;
    }

    /** The reader keeps a row of its own, since sums read from it later. */
    private Reader takeText() {
        char[] taken = new char[typed];
        System.arraycopy(text, 0, taken, 0, typed);
        typed = 0;
        return new Reader(taken);
    }

    private void lookAround() {
        view.load(current);
        rules.findMoves(view);
    }

    /** The nodes, their edges, and how states are numbered. */
    private static final class Graph {
        private final int[] links = new int[MOST_NODES];
        private final int[] weights = new int[MOST_NODES];
        private int n;
        private int k;
        private int edges;
        private int states;

        Graph() {
            renew(2, 2);
        }

        private void renew(int nodes, int values) {
            n = nodes;
            k = values;
            edges = 0;
            states = 1;
            Arrays.fill(links, 0);
            for (int node = n - 1; node >= 0; node--) {
                weights[node] = states;
                states *= k;
            }
        }

        private boolean has(int node) {
            return node >= 0 && node < n;
        }

        private boolean linked(int a, int b) {
            return (links[a] >> b & 1) != 0;
        }

        private void link(int a, int b) {
            links[a] |= 1 << b;
            links[b] |= 1 << a;
            edges++;
        }

        private int digit(int state, int node) {
            return state / weights[node] % k;
        }
    }

    /** A state as one of its nodes sees it. */
    private static final class View {
        private final Graph net;
        private final int[] values = new int[MOST_NODES];
        /** What each digit and letter stands for now, by its character, so that a sum just looks it up. */
        private final int[] parts = new int[LAST_TYPED + 1];
        /** How much the state's number changes when a node moves. */
        private final int[] shifts = new int[MOST_NODES];
        private int able;
        private int node;

        View(Graph net) {
            this.net = net;
            for (int digit = 0; digit <= 9; digit++) {
                parts['0' + digit] = digit;
            }
        }

        private void load(int state) {
            for (int a = 0; a < net.n; a++) {
                values[a] = net.digit(state, a);
            }
            parts['n'] = net.n;
            parts['k'] = net.k;
        }

        private void standAt(int a) {
            int last = net.n - 1;
            node = a;
            parts['x'] = values[a];
            parts['i'] = a;
            parts['l'] = values[a == 0 ? last : a - 1];
            parts['u'] = values[a == last ? 0 : a + 1];
            parts['d'] = Integer.bitCount(net.links[a]);
            parts['m'] = net.k;
            parts['M'] = -1;
            for (int b = 0; b < net.n; b++) {
                if (net.linked(a, b)) {
                    parts['m'] = Math.min(parts['m'], values[b]);
                    parts['M'] = Math.max(parts['M'], values[b]);
                }
            }
        }

        private void lookAt(int neighbour) {
            parts['y'] = values[neighbour];
            parts['j'] = neighbour;
        }
    }

    /** What can hold or not hold for the node at which a view stands. */
    private abstract static class Test {
        abstract boolean holds(View view);
    }

    private static final class Comparison extends Test {
        private final Sum left;
        private final char sign;
        private final Sum right;

        Comparison(Sum left, char sign, Sum right) {
            this.left = left;
            this.sign = sign;
            this.right = right;
        }

        boolean holds(View view) {
            int a = left.total(view);
            int b = right.total(view);
            if (sign == '<') {
                return a < b;
            }
            return (a == b) == (sign == '=');
        }
    }

    /** Two tests with & or | between. */
    private static final class Pair extends Test {
        private final Test left;
        private final Test right;
        private final boolean needsBoth;

        Pair(Test left, Test right, boolean needsBoth) {
            this.left = left;
            this.right = right;
            this.needsBoth = needsBoth;
        }

        boolean holds(View view) {
            return left.holds(view) == needsBoth ? right.holds(view) : !needsBoth;
        }
    }

    private static final class Not extends Test {
        private final Test inner;

        Not(Test inner) {
            this.inner = inner;
        }

        boolean holds(View view) {
            return !inner.holds(view);
        }
    }

    /** A test of the neighbours: of all, or of some. */
    private static final class Neighbours extends Test {
        private final Test inner;
        private final boolean needsAll;

        Neighbours(Test inner, boolean needsAll) {
            this.inner = inner;
            this.needsAll = needsAll;
        }

        boolean holds(View view) {
            for (int b = 0; b < view.net.n; b++) {
                if (view.net.linked(view.node, b)) {
                    view.lookAt(b);
                    if (inner.holds(view) != needsAll) {
                        return !needsAll;
                    }
                }
            }
            return needsAll;
        }
    }

    /** Parts stand at every second place of the text from the first on, signs between them. */
    private static final class Sum {
        private final char[] text;
        private final int from;
        private final int end;
        private final boolean wraps;

        Sum(char[] text, int from, int end, boolean wraps) {
            this.text = text;
            this.from = from;
            this.end = end;
            this.wraps = wraps;
        }

        private int total(View view) {
            int total = 0;
            for (int at = from; at < end; at += 2) {
                int part = view.parts[text[at]];
                total += at > from && text[at - 1] == '-' ? -part : part;
            }
            return wraps ? Math.floorMod(total, view.net.k) : total;
        }
    }

    /**
     * Reads a text from its front. At the first fault it sees the text's end everywhere, so that all
     * that is being read comes to an end; what it has made then is not to be used.
     */
    private static final class Reader {
        private static final char END = 0;
        private static final String PARTS = "0123456789xidmMlunk";
        private static final String PARTS_OF_NEIGHBOURS = "yj";

        private final char[] text;
        private int at;
        private int fault = NONE;

        Reader(char[] text) {
            this.text = text;
        }

        private char next() {
            return fault == NONE && at < text.length ? text[at] : END;
        }

        private void refuse() {
            if (fault == NONE) {
                fault = at;
            }
        }

        private boolean take(char c) {
            if (next() != c) {
                return false;
            }
            at++;
            return true;
        }

        private void need(char c) {
            if (!take(c)) {
                refuse();
            }
        }

        private void needEnd() {
            if (at < text.length) {
                refuse();
            }
        }

        private Test readGuard(int open, boolean ofNeighbour) {
            Test guard = readBoth(open, ofNeighbour);
            for (int more = 0; more < MOST_TYPED && take('|'); more++) {
                guard = new Pair(guard, readBoth(open, ofNeighbour), false);
            }
            return guard;
        }

        private Test readBoth(int open, boolean ofNeighbour) {
            Test both = readTest(open, ofNeighbour);
            for (int more = 0; more < MOST_TYPED && take('&'); more++) {
                both = new Pair(both, readTest(open, ofNeighbour), true);
            }
            return both;
        }

        /** One that may not be opened is left to the comparison, which refuses it as no part of a sum. */
        private Test readTest(int open, boolean ofNeighbour) {
            if (open < MOST_OPEN) {
                if (take('!')) {
                    return new Not(readTest(open + 1, ofNeighbour));
                }
                if (take('(')) {
                    Test inner = readGuard(open + 1, ofNeighbour);
                    need(')');
                    return inner;
                }
                if (!ofNeighbour && take('A')) {
                    return new Neighbours(readTest(open + 1, true), true);
                }
                if (!ofNeighbour && take('E')) {
                    return new Neighbours(readTest(open + 1, true), false);
                }
            }
            return readComparison(ofNeighbour);
        }

        private Test readComparison(boolean ofNeighbour) {
            Sum left = readSum(ofNeighbour);
            char sign = next();
            if (sign == '=' || sign == '#' || sign == '<') {
                at++;
            } else {
                refuse();
            }
            return new Comparison(left, sign, readSum(ofNeighbour));
        }

        private Sum readSum(boolean ofNeighbour) {
            int from = at;
            readPart(ofNeighbour);
            for (int more = 0; more < MOST_TYPED && (take('+') || take('-')); more++) {
                readPart(ofNeighbour);
            }
            int end = at;
            return new Sum(text, from, end, take('%'));
        }

        private void readPart(boolean ofNeighbour) {
            char c = next();
            if (PARTS.indexOf(c) >= 0 || ofNeighbour && PARTS_OF_NEIGHBOURS.indexOf(c) >= 0) {
                at++;
            } else {
                refuse();
            }
        }
    }

    /** The rules by which nodes move, and what is good. */
    private static final class Rules {
        private final Test[] guards = new Test[MOST_RULES];
        private final Sum[] sums = new Sum[MOST_RULES];
        private int size;
        private int aimKind = AIM_NONE_ENABLED;
        private Test aimGuard;

        private void clear() {
            size = 0;
            aimAt(AIM_NONE_ENABLED, null);
        }

        private void add(Test guard, Sum sum) {
            guards[size] = guard;
            sums[size] = sum;
            size++;
        }

        private void removeLast() {
            size--;
        }

        private void aimAt(int kind, Test guard) {
            aimKind = kind;
            aimGuard = guard;
        }

        /** The rule by which the node at which the view stands would move, or NONE. */
        private int first(View view) {
            for (int i = 0; i < size; i++) {
                if (guards[i].holds(view)) {
                    return i;
                }
            }
            return NONE;
        }

        private void findMoves(View view) {
            Graph net = view.net;
            view.able = 0;
            for (int node = 0; node < net.n; node++) {
                view.standAt(node);
                int rule = first(view);
                view.shifts[node] = 0;
                if (rule != NONE) {
                    int value = Math.floorMod(sums[rule].total(view), net.k);
                    view.able |= 1 << node;
                    view.shifts[node] = (value - view.values[node]) * net.weights[node];
                }
            }
        }

        /** Whether the view's state is good; which nodes are able must be known in it. */
        private boolean meetAim(View view) {
            if (aimKind == AIM_ONE_ENABLED) {
                return Integer.bitCount(view.able) == 1;
            }
            if (aimKind == AIM_NONE_ENABLED || aimGuard == null) {
                return view.able == 0;
            }
            for (int node = 0; node < view.net.n; node++) {
                view.standAt(node);
                if (!aimGuard.holds(view)) {
                    return false;
                }
            }
            return true;
        }
    }

    /** The search of all states; what it has found is kept until something changes it. */
    private static final class Search {
        /** Above every distance, so that one more than it is endless, too. */
        private static final int ENDLESS = 1000000;
        private static final int NEW = 0;
        private static final int OPEN = 1;
        private static final int DONE = 2;
        private static final int ON_RUN = 3;
        /** Each state is opened once, closed once, and tries each choice once. */
        private static final int MOST_PASSES = MOST_STATES * (MOST_CHOICES + 2);

        private final Graph net;
        private final Rules rules;
        private final View view;
        private final int[] able = new int[MOST_STATES];
        private final int[] shifts = new int[MOST_STATES * MOST_NODES];
        private final boolean[] isGood = new boolean[MOST_STATES];
        private final int[] distance = new int[MOST_STATES];
        private final int[] mark = new int[MOST_STATES];
        private final int[] tried = new int[MOST_STATES];
        private final int[] path = new int[MOST_STATES];
        private final int[] run = new int[MOST_STATES + 1];
        private int runLength;
        private int scheduler = SCHEDULER_ONE;
        private int verdict;
        private int longest;
        private int goodStates;
        private boolean movesKnown;
        private boolean verdictKnown;

        Search(Graph net, Rules rules) {
            this.net = net;
            this.rules = rules;
            view = new View(net);
        }

        private void forgetMoves() {
            movesKnown = false;
            verdictKnown = false;
        }

        private void forgetVerdict() {
            verdictKnown = false;
        }

        private boolean allows(int enabledNodes, int choice) {
            if (choice <= 0 || (choice & ~enabledNodes) != 0) {
                return false;
            }
            if (scheduler == SCHEDULER_ONE) {
                return Integer.bitCount(choice) == 1;
            }
            return scheduler == SCHEDULER_ANY || choice == enabledNodes;
        }

        private void judge() {
            if (verdictKnown) {
                return;
            }
            if (!movesKnown) {
                findAllMoves();
            }
            findGoodStates();
            runLength = 0;
            verdict = findVerdict();
            verdictKnown = true;
        }

        private void findAllMoves() {
            for (int state = 0; state < net.states; state++) {
                view.load(state);
                rules.findMoves(view);
                able[state] = view.able;
                System.arraycopy(view.shifts, 0, shifts, state * MOST_NODES, net.n);
            }
            movesKnown = true;
        }

        private void findGoodStates() {
            goodStates = 0;
            for (int state = 0; state < net.states; state++) {
                view.load(state);
                view.able = able[state];
                isGood[state] = rules.meetAim(view);
                if (isGood[state]) {
                    goodStates++;
                }
            }
        }

        private int findVerdict() {
            if (findStepOutOfGood()) {
                return LEAVES_GOOD;
            }
            if (findStandstill()) {
                return STANDS_STILL;
            }
            measure();
            return findEndlessRun() ? GOES_ON : HEALS;
        }

        private int after(int state, int choice) {
            int next = state;
            for (int node = 0; node < net.n; node++) {
                if ((choice >> node & 1) != 0) {
                    next += shifts[state * MOST_NODES + node];
                }
            }
            return next;
        }

        private void addToRun(int state) {
            if (runLength < run.length) {
                run[runLength] = state;
                runLength++;
            }
        }

        private boolean findStepOutOfGood() {
            for (int state = 0; state < net.states; state++) {
                for (int choice = 1; isGood[state] && choice <= able[state]; choice++) {
                    if (allows(able[state], choice) && !isGood[after(state, choice)]) {
                        addToRun(state);
                        addToRun(after(state, choice));
                        return true;
                    }
                }
            }
            return false;
        }

        private boolean findStandstill() {
            for (int state = 0; state < net.states; state++) {
                if (!isGood[state] && able[state] == 0) {
                    addToRun(state);
                    return true;
                }
            }
            return false;
        }

        /** Finds every state's distance to good at most, ENDLESS or more where there is none. */
        private void measure() {
            for (int state = 0; state < net.states; state++) {
                distance[state] = 0;
                tried[state] = 0;
                mark[state] = isGood[state] ? DONE : NEW;
            }
            longest = 0;
            for (int state = 0; state < net.states; state++) {
                if (mark[state] == NEW) {
                    measureFrom(state);
                }
                longest = Math.max(longest, distance[state]);
            }
        }

        /** Goes down into new states first, along a path of open ones, as deep recursion is ruled out. */
        private void measureFrom(int start) {
            int depth = 1;
            path[0] = start;
            mark[start] = OPEN;
            for (int pass = 0; pass < MOST_PASSES && depth > 0; pass++) {
                int state = path[depth - 1];
                int choice = tried[state] + 1;
                if (choice > able[state]) {
                    mark[state] = DONE;
                    depth--;
                } else if (!allows(able[state], choice)) {
                    tried[state] = choice;
                } else {
                    int next = after(state, choice);
                    if (mark[next] == NEW) {
                        path[depth] = next;
                        mark[next] = OPEN;
                        depth++;
                    } else {
                        tried[state] = choice;
                        learn(state, next);
                    }
                }
            }
        }

        /** An open state leads back to this one, so a step to it closes a ring. */
        private void learn(int state, int next) {
            int beyond = mark[next] == OPEN ? ENDLESS : distance[next];
            distance[state] = Math.max(distance[state], beyond + 1);
        }

        private boolean findEndlessRun() {
            if (longest < ENDLESS) {
                return false;
            }
            int state = 0;
            while (state < net.states - 1 && distance[state] < ENDLESS) {
                state++;
            }
            for (int i = 0; i < MOST_STATES && mark[state] != ON_RUN; i++) {
                mark[state] = ON_RUN;
                addToRun(state);
                state = endlessAfter(state);
            }
            addToRun(state);
            return true;
        }

        private int endlessAfter(int state) {
            for (int choice = 1; choice <= able[state]; choice++) {
                if (allows(able[state], choice) && distance[after(state, choice)] >= ENDLESS) {
                    return after(state, choice);
                }
            }
            return state;
        }
    }
}
