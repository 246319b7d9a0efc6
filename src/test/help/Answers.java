/** What the tests have in common: answers held against those that are due, and benches made ready. */
abstract class Answers {
    static final int NONE = -1;
    static final int FULL = -2;
    static final int[] WRONG = {-1, Integer.MIN_VALUE, Integer.MAX_VALUE};

    private static int wrong = 0;

    static void due(String what, long got, long want) {
        if (got != want) {
            wrong++;
            System.out.println(what + " answered " + got + ", due is " + want);
        }
    }

    static void due(String what, boolean got, boolean want) {
        due(what, got ? 1 : 0, want ? 1 : 0);
    }

    static void due(String what, String got, String want) {
        if (!got.equals(want)) {
            wrong++;
            System.out.println(what + " is " + got + ", due is " + want);
        }
    }

    static void end() {
        System.out.println(wrong == 0 ? "all answers are as due" : wrong + " answers are not as due");
        if (wrong != 0) {
            System.exit(1);
        }
    }

    static void say(HealBench b, String text) {
        for (int i = 0; i < text.length(); i++) {
            b.type(text.charAt(i));
        }
    }

    static int rule(HealBench b, String text) {
        say(b, text);
        return b.rule();
    }

    static int aim(HealBench b, String text) {
        say(b, text);
        return b.aim(2);
    }

    static void edges(HealBench b, String pairs) {
        for (int i = 0; i + 1 < pairs.length(); i += 2) {
            b.edge(pairs.charAt(i) - '0', pairs.charAt(i + 1) - '0');
        }
    }

    static void values(HealBench b, String values) {
        for (int a = 0; a < values.length(); a++) {
            b.set(a, values.charAt(a) - '0');
        }
    }

    /** A bench with as many nodes as it is given values; edges are pairs of nodes, "0112". */
    static HealBench bench(int k, String edges, String values, String... rules) {
        HealBench b = new HealBench();
        b.graph(values.length(), k);
        edges(b, edges);
        values(b, values);
        for (String text : rules) {
            due("rule " + text, rule(b, text) > 0, true);
        }
        return b;
    }

    static String run(HealBench b) {
        StringBuilder s = new StringBuilder();
        for (int i = 0; i < 200 && b.bad(i) != NONE; i++) {
            s.append(i == 0 ? "" : " ").append(b.bad(i));
        }
        return s.toString();
    }

    static void dueRun(String what, HealBench b, int verdict, String run) {
        due(what + ": search()", b.search(), verdict);
        due(what + ": the bad run", run(b), run);
    }

    static void dueCounts(String what, HealBench b, int... counts) {
        for (int i = 0; i < counts.length; i++) {
            due(what + ": count(" + i + ")", b.count(i), counts[i]);
        }
    }

    /** Whether a guard holds for a node; the bench must have room for a rule, and nothing be typed. */
    static boolean holds(HealBench b, int a, String guard) {
        int rules = b.count(4);
        due("rule " + guard, rule(b, guard + ">0"), rules + 1);
        boolean holds = b.enabled(a) == rules + 1;
        b.drop();
        return holds;
    }

    static void dueHolds(HealBench b, int a, String guard, boolean want) {
        due(guard + " for " + a + " in " + b.state(), holds(b, a, guard), want);
    }

    /** A sum without % that comes to v. */
    static String sum(int v) {
        StringBuilder s = new StringBuilder("0");
        int rest = Math.abs(v);
        while (rest > 0) {
            s.append(v < 0 ? '-' : '+').append(Math.min(rest, 9));
            rest -= Math.min(rest, 9);
        }
        return s.toString();
    }
}
