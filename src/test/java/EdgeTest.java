/** The edges that the document's promises name: above each test stand the words that it holds the class to. */
public final class EdgeTest extends Answers {
    private static final String ALL_EDGES = "01020304121314232434";

    private static int states(int n, int k) {
        int states = 1;
        for (int a = 0; a < n; a++) {
            states *= k;
        }
        return states;
    }

    // 1: "Two nodes without an edge, K is 2; values 0, no rules, scheduler 0, nothing typed."
    private static void newObject() {
        HealBench b = new HealBench();
        dueCounts("new", b, 0, 0, 2, 0, 0, 2, 0);
        due("new: value(0)", b.value(0), 0);
        due("new: value(1)", b.value(1), 0);
        due("new: state()", b.state(), 0);
        due("new: a value of 2", b.set(0, 2), NONE);
        due("new: rule() of nothing", b.rule(), -10);
        due("new: aim(2) of nothing", b.aim(2), -10);
        due("new: drop()", b.drop(), NONE);
        due("new: enabled(1)", b.enabled(1), 0);
        due("new: scheduler(2)", b.scheduler(2), 0);
        due("new: edge(0, 1)", b.edge(0, 1), 1);
        HealBench other = new HealBench();
        dueCounts("another new one", other, 0, 0, 2, 0, 0, 2, 0);
        due("another new one: scheduler(0)", other.scheduler(0), 0);
        due("another new one: edge(1, 0)", other.edge(1, 0), 1);
    }

    // 2: "How many states there are. NONE, refused, when n is not 2 .. 5, or k not 2 .. 4."
    private static void graphSizes() {
        for (int n = -2; n <= 8; n++) {
            for (int k = -2; k <= 8; k++) {
                boolean is = n >= 2 && n <= 5 && k >= 2 && k <= 4;
                HealBench b = new HealBench();
                b.graph(3, 3);
                due("graph(" + n + ", " + k + ")", b.graph(n, k), is ? states(n, k) : NONE);
                due("nodes after graph(" + n + ", " + k + ")", b.count(2), is ? n : 3);
                due("K after graph(" + n + ", " + k + ")", b.count(5), is ? k : 3);
            }
        }
    }

    // 2: "without edges, values below k, all 0"
    private static void graphIsNew() {
        for (int n = 2; n <= 5; n++) {
            HealBench b = bench(4, ALL_EDGES, "33333");
            b.graph(n, 3);
            due("edges after graph", b.count(3), 0);
            due("state after graph", b.state(), 0);
            for (int a = 0; a < n; a++) {
                due("value after graph", b.value(a), 0);
                dueHolds(b, a, "d=0&m=k&M<0&A0=1&!E0=0", true);
                due("K - 1 is a value", b.set(a, 2), 0);
                due("K is none", b.set(a, 3), NONE);
            }
            int made = 0;
            for (int a = 1; a < n; a++) {
                for (int c = 0; c < a; c++) {
                    made++;
                    due("edge " + made + " after graph", b.edge(a, c), made);
                }
            }
        }
    }

    // 2: "rules, a guard for good, counts are gone (good is of kind 1), the scheduler stays"
    private static void graphTakes() {
        for (int kind = 0; kind < 3; kind++) {
            HealBench b = bench(2, "01", "00", "x=0>1", "x=1>0");
            b.scheduler(kind);
            aim(b, "x=1");
            b.fire(kind == 1 ? 3 : 1);
            due("a step is counted", b.count(0), 1);
            b.graph(2, 2);
            dueCounts("after graph", b, 0, 0, 2, 0, 0, 2, 0);
            due("no rule to drop", b.drop(), NONE);
            due("none is enabled", b.enabled(0), 0);
            due("no state has an enabled node", b.goods(), 4);
            due("the state has none", b.good(), true);
            due("search()", b.search(), 0);
            due("a first rule", rule(b, "x=0>1"), 1);
            due("kind 1, by the new rule", b.goods(), 1);
            due("kind 1, state 0", b.good(), false);
            due("the scheduler stays", b.scheduler(0), kind);
        }
        HealBench b = bench(2, "", "00", "x=0>1");
        b.aim(0);
        b.graph(2, 2);
        rule(b, "i=0&x=0>1");
        due("kind 0 is gone", b.good(), false);
        due("two have none enabled", b.goods(), 2);
    }

    // 2: what is typed is not among what is gone
    private static void graphLeavesText() {
        HealBench b = new HealBench();
        say(b, "x=0>");
        b.graph(3, 2);
        due("count(6)", b.count(6), 4);
        due("it goes on", rule(b, "1"), 1);
        due("and moves", b.fire(1), 4);
    }

    // 3: "An edge more: how many there are."
    private static void mostEdges() {
        for (int n = 2; n <= 5; n++) {
            HealBench b = new HealBench();
            b.graph(n, 2);
            int made = 0;
            for (int a = 0; a < n; a++) {
                for (int c = 0; c < n; c++) {
                    made += c > a ? 1 : 0;
                    due(n + " nodes: edge(" + a + ", " + c + ")", b.edge(a, c), c > a ? made : NONE);
                    due("count(3)", b.count(3), made);
                }
            }
            for (int a = 0; a < n; a++) {
                due("all have n - 1", holds(b, a, "d=n-1"), true);
            }
        }
    }

    // 3: "NONE, refused, when there is no such node, both are the same, or it is there."
    private static void noEdge() {
        for (int a = -2; a <= 6; a++) {
            for (int c = -2; c <= 6; c++) {
                boolean are = a >= 0 && a < 4 && c >= 0 && c < 4 && a != c;
                boolean isThere = a + c == 1;
                HealBench b = bench(2, "01", "0000");
                due("edge(" + a + ", " + c + ")", b.edge(a, c), are && !isThere ? 2 : NONE);
                due("count(3)", b.count(3), are && !isThere ? 2 : 1);
                due("again", b.edge(c, a), NONE);
            }
        }
    }

    // 3: the edge is one for rules and guards that were there before it, and for a search after one, too
    private static void edgeAfterSearch() {
        HealBench b = bench(2, "", "000", "Ey=x>1-x");
        due("goods() without edges", b.goods(), 8);
        due("good()", b.good(), true);
        b.edge(0, 2);
        due("goods() with one", b.goods(), 4);
        due("good()", b.good(), false);
        due("worst() with one", b.worst(), 1);
        b.edge(2, 1);
        due("goods() with two", b.goods(), 2);
        due("search() with two: the middle one can flip for ever", b.search(), 3);
        b.edge(1, 0);
        due("goods() with three", b.goods(), 0);
        due("search() with three", b.search(), 3);
        due("worst() with three", b.worst(), NONE);
        aim(b, "d=2");
        due("goods() by d", b.goods(), 8);
    }

    // 4: "A character is typed: how many there are. NONE, refused, when c is not 32 .. 126"
    private static void typeable() {
        for (int c = -300; c <= 400; c++) {
            HealBench b = new HealBench();
            b.type('x');
            boolean is = c >= 32 && c <= 126;
            due("type(" + c + ")", b.type(c), is ? 2 : NONE);
            due("count(6)", b.count(6), is ? 2 : 1);
        }
        for (int c : new int[] {Integer.MIN_VALUE, Integer.MAX_VALUE, 'x' + 65536, 'x' - 65536, 'x' + 256, 'x' + 128}) {
            due("type(" + c + ")", new HealBench().type(c), NONE);
        }
    }

    // 4: "FULL when there are 48."
    private static void fullText() {
        HealBench b = new HealBench();
        for (int i = 1; i <= 47; i++) {
            due("type " + i, b.type('0'), i);
        }
        due("type 48", b.type('0'), 48);
        for (int c = 32; c <= 126; c++) {
            due("type 49", b.type(c), FULL);
        }
        due("no character, full or not", b.type(31), NONE);
        due("no character, full or not", b.type(127), NONE);
        due("count(6)", b.count(6), 48);
        due("it is read", b.rule(), -11);
        due("there is room again", b.type('x'), 1);
        say(b, "0".repeat(47));
        due("and full again", b.type('x'), FULL);
        due("it is read as a guard", b.aim(2), -11);
        due("there is room again", b.type('x'), 1);
    }

    // 5: "The text becomes a rule behind the others: how many there are. FULL when there are 6"
    private static void fullRules() {
        HealBench b = bench(4, "", "00");
        for (int r = 1; r <= 6; r++) {
            due("rule " + r, rule(b, "x=0>" + r), r);
            due("count(4)", b.count(4), r);
            due("the first stays the first", b.enabled(0), 1);
        }
        due("a seventh", rule(b, "x=0>7"), FULL);
        due("count(4)", b.count(4), 6);
        due("the first moves", b.fire(1), 4);
        b.drop();
        due("room for one", rule(b, "x=1>3"), 6);
        due("it is behind the others", b.enabled(0), 6);
        due("and moves", b.fire(1), 12);
        due("full again", rule(b, "x=0>7"), FULL);
        b.graph(2, 2);
        due("room for all", rule(b, "x=0>7"), 1);
    }

    // 5: "-10 less the fault's place when it has one (nothing else changes)"
    private static void faultyRule() {
        String right = "x" + "+x".repeat(23);
        for (int place = 0; place <= 47; place++) {
            HealBench b = bench(2, "01", "01", "x=0>1");
            b.scheduler(2);
            b.fire(1);
            due("a fault at " + place, rule(b, right.substring(0, place) + "?"), -10 - place);
            dueCounts("after a fault", b, 1, 1, 2, 1, 1, 2, 0);
            due("an end at " + place, rule(b, right.substring(0, place)), -10 - place);
            dueCounts("after an early end", b, 1, 1, 2, 1, 1, 2, 0);
            due("state()", b.state(), 3);
            due("the scheduler stays", b.scheduler(0), 2);
            due("kind 1 stays", b.goods(), 1);
        }
        HealBench b = new HealBench();
        due("an end at 48", rule(b, right + "="), -10 - 48);
        due("it is gone", b.count(6), 0);
    }

    // 5: "Nothing is typed any more in any case."
    private static void ruleTakesText() {
        HealBench b = new HealBench();
        due("a rule", rule(b, "x=0>1"), 1);
        due("gone when it is a rule", b.count(6), 0);
        due("a fault", rule(b, "x=0>?"), -14);
        due("gone when it has a fault", b.count(6), 0);
        due("an early end", rule(b, "x=0>"), -14);
        due("gone when it ends too early", b.count(6), 0);
        due("none", b.rule(), -10);
        due("none is still none", b.count(6), 0);
        for (int r = 2; r <= 6; r++) {
            rule(b, "x=0>1");
        }
        due("full", rule(b, "x=0>1"), FULL);
        due("gone when it is full", b.count(6), 0);
        due("full and a fault", rule(b, "?"), FULL);
        due("gone when it is both", b.count(6), 0);
        due("full and none", b.rule(), FULL);
        due("type", b.type('x'), 1);
    }

    // 6: "The last rule goes: how many are left. NONE when there is none."
    private static void dropAll() {
        HealBench b = bench(4, "", "0123", "x=3>0", "x=2>0", "x=1>0", "x=0>0", "0=1>0", "0=0>0");
        for (int left = 5; left >= 0; left--) {
            due("drop()", b.drop(), left);
            due("count(4)", b.count(4), left);
            for (int a = 0; a < 4; a++) {
                due(left + " are left: enabled(" + a + ")", b.enabled(a), 4 - a <= left ? 4 - a : 0);
            }
        }
        due("drop() of none", b.drop(), NONE);
        due("drop() of none", b.drop(), NONE);
        due("count(4)", b.count(4), 0);
        due("a first one", rule(b, "x=0>0"), 1);
        due("drop()", b.drop(), 0);
        due("drop() of none", b.drop(), NONE);
    }

    // 7: "Good is of another kind"; "NONE, refused, for another kind."
    private static void aimKinds() {
        for (int kind = -3; kind <= 6; kind++) {
            HealBench b = bench(3, "", "000", "x=0>1");
            say(b, "x=1");
            due("aim(" + kind + ")", b.aim(kind), kind >= 0 && kind <= 2 ? 0 : NONE);
            due("goods() by " + kind, b.goods(), kind == 0 ? 12 : kind == 2 ? 1 : 8);
            due("typed after " + kind, b.count(6), kind == 2 ? 0 : 3);
        }
        for (int x : WRONG) {
            due("aim(" + x + ")", new HealBench().aim(x), NONE);
        }
    }

    // 7: "for 2 by the text that is typed (a guard alone), which is gone then: 0, or -10 less the fault's place
    // (nothing else changes)"
    private static void aimFault() {
        String[] faulty = {"", "x", "x=1>1", "x=1>", "x=1)", "(x=1", "x=1&", "y=1", "x=1 "};
        int[] places = {0, 1, 3, 3, 3, 4, 4, 0, 3};
        for (int kind = 0; kind < 3; kind++) {
            for (int f = 0; f < faulty.length; f++) {
                HealBench b = bench(3, "01", "012", "x=0>1");
                say(b, kind == 2 ? "x=1" : "");
                due("aim(" + kind + ")", b.aim(kind), 0);
                b.fire(1);
                due("aim(2) by '" + faulty[f] + "'", aim(b, faulty[f]), -10 - places[f]);
                dueCounts("after '" + faulty[f] + "'", b, 1, 1, 3, 1, 1, 3, 0);
                due("goods() after '" + faulty[f] + "'", b.goods(), kind == 0 ? 12 : kind == 2 ? 1 : 8);
                due("good() after '" + faulty[f] + "'", b.good(), kind == 1);
            }
        }
        HealBench b = bench(3, "", "012");
        due("a right guard", aim(b, "x=1"), 0);
        due("is gone", b.count(6), 0);
        due("the empty one has its fault at 0", b.aim(2), -10);
        due("and the one before stays", b.goods(), 1);
        due("another right guard", aim(b, "x<2"), 0);
        due("takes its place", b.goods(), 8);
        due("aim(1)", b.aim(1), 0);
        due("no guard any more", b.goods(), 27);
        due("and none comes back", b.aim(2), -10);
        due("kind 1 stays", b.goods(), 27);
    }

    // 8: "The scheduler is another one: the one before. NONE, refused, when it is not 0 .. 2."
    private static void schedulers() {
        for (int before = 0; before < 3; before++) {
            for (int kind = -3; kind <= 6; kind++) {
                boolean is = kind >= 0 && kind <= 2;
                HealBench b = bench(2, "", "00", "x=0>1");
                b.scheduler(before);
                due("scheduler(" + kind + ")", b.scheduler(kind), is ? before : NONE);
                int now = is ? kind : before;
                due("one may move under " + now, b.fire(1), now == 1 ? NONE : 2);
                b.set(0, 0);
                due("both may move under " + now, b.fire(3), now == 0 ? NONE : 3);
                due("worst() under " + now, b.worst(), now == 1 ? 1 : 2);
                due("the one before", b.scheduler(0), now);
            }
            for (int x : WRONG) {
                due("scheduler(" + x + ")", new HealBench().scheduler(x), NONE);
            }
        }
    }

    // 9: "A node's value is another one"; "The value before. NONE, refused, when there is no such node or value."
    private static void setMatrix() {
        for (int a = -2; a <= 6; a++) {
            for (int x = -2; x <= 6; x++) {
                boolean is = a >= 0 && a < 3 && x >= 0 && x < 3;
                HealBench b = bench(3, "", "121");
                due("set(" + a + ", " + x + ")", b.set(a, x), is ? a == 1 ? 2 : 1 : NONE);
                for (int node = 0; node < 3; node++) {
                    due("value(" + node + ")", b.value(node), is && node == a ? x : node == 1 ? 2 : 1);
                }
            }
        }
    }

    // 9: "steps and moves are counted from here on"
    private static void setCounts() {
        HealBench b = bench(4, "", "000", "0=0>x+1");
        b.scheduler(2);
        b.fire(7);
        b.fire(3);
        dueCounts("two steps", b, 2, 5);
        due("no such value", b.set(0, 4), NONE);
        due("no such node", b.set(3, 0), NONE);
        dueCounts("refused", b, 2, 5);
        due("to the value that it has", b.set(2, 1), 1);
        dueCounts("from here on", b, 0, 0);
        b.fire(5);
        dueCounts("a step more", b, 1, 2);
        due("to another", b.set(2, 0), 2);
        dueCounts("from here on", b, 0, 0);
    }

    // 10, 11: "NONE when there is no such node."
    private static void noSuchNode() {
        HealBench b = bench(4, "", "3210", "x=0>0", "x=1>0", "x=2>0");
        for (int a = -3; a <= 7; a++) {
            boolean is = a >= 0 && a < 4;
            due("value(" + a + ")", b.value(a), is ? 3 - a : NONE);
            due("enabled(" + a + ")", b.enabled(a), is ? a == 0 ? 0 : 4 - a : NONE);
        }
        for (int x : WRONG) {
            due("value(" + x + ")", b.value(x), NONE);
            due("enabled(" + x + ")", b.enabled(x), NONE);
        }
        b.graph(2, 4);
        due("value(2) after graph(2, 4)", b.value(2), NONE);
        due("enabled(2) after graph(2, 4)", b.enabled(2), NONE);
    }

    // 12: "A step with a choice: the state's number then. NONE, refused"
    private static void fireEdges() {
        HealBench b = bench(4, "", "00000", "0=0>3");
        b.scheduler(1);
        due("all five", b.fire(31), 1023);
        due("to what they are", b.fire(31), 1023);
        dueCounts("that is a step, too", b, 2, 10);
        due("none", b.fire(0), NONE);
        due("a sixth", b.fire(63), NONE);
        due("a sixth alone", b.fire(32), NONE);
        due("bits far above", b.fire(31 | 1 << 31), NONE);
        due("bits far above", b.fire(31 | 1 << 30), NONE);
        due("all bits", b.fire(-1), NONE);
        dueCounts("refused", b, 2, 10);
        b = new HealBench();
        for (int kind = 0; kind < 3; kind++) {
            b.scheduler(kind);
            for (int choice = -1; choice <= 4; choice++) {
                due("none is enabled: fire(" + choice + ")", b.fire(choice), NONE);
            }
        }
        dueCounts("no steps", b, 0, 0);
    }

    // 13, 14: the state that is good, and its number, are those after the last set, step or graph
    private static void goodAndState() {
        for (int s = 0; s < 64; s++) {
            HealBench b = new HealBench();
            b.graph(3, 4);
            b.set(0, s / 16);
            b.set(1, s / 4 % 4);
            b.set(2, s % 4);
            due("state()", b.state(), s);
            aim(b, "x=2");
            due("good() in " + s, b.good(), s == 42);
            rule(b, "x=2>1");
            int enabled = (s / 16 == 2 ? 1 : 0) + (s / 4 % 4 == 2 ? 1 : 0) + (s % 4 == 2 ? 1 : 0);
            b.aim(0);
            due("good() of kind 0 in " + s, b.good(), enabled == 1);
            b.aim(1);
            due("good() of kind 1 in " + s, b.good(), enabled == 0);
        }
        HealBench b = bench(3, "", "22", "x=2>0");
        due("two are enabled", b.good(), false);
        b.fire(1);
        due("state() after a step", b.state(), 2);
        due("one is enabled", b.good(), false);
        b.fire(2);
        due("none is enabled", b.good(), true);
        b.set(1, 2);
        due("one is again", b.good(), false);
        b.graph(2, 2);
        due("state() after graph", b.state(), 0);
    }

    // 15: "NONE for another what"
    private static void countMatrix() {
        HealBench b = bench(4, "010212", "00000", "x=0>1", "x=1>2", "x=2>3", "x=3>0", "0=0>0");
        b.scheduler(2);
        b.fire(31);
        b.fire(6);
        b.fire(1);
        say(b, "xyxyxyx");
        int[] counts = {3, 8, 5, 3, 5, 4, 7};
        for (int what = -4; what <= 12; what++) {
            boolean is = what >= 0 && what <= 6;
            due("count(" + what + ")", b.count(what), is ? counts[what] : NONE);
        }
        for (int x : WRONG) {
            due("count(" + x + ")", b.count(x), NONE);
        }
    }

    // 15: "Steps since the last set() or graph()"
    private static void countsSince() {
        HealBench b = bench(2, "", "00", "0=0>1-x");
        b.fire(1);
        b.fire(2);
        dueCounts("two steps", b, 2, 2);
        b.edge(0, 1);
        rule(b, "x=0>0");
        rule(b, "x");
        b.drop();
        b.aim(0);
        aim(b, "x=0");
        b.scheduler(1);
        b.search();
        b.type('x');
        b.fire(1);
        b.graph(6, 2);
        b.set(2, 0);
        dueCounts("other calls and refused ones leave them", b, 2, 2);
        b.fire(3);
        dueCounts("a step of both", b, 3, 4);
        b.graph(2, 2);
        dueCounts("graph()", b, 0, 0);
    }

    // 17: "The greatest number of steps, over all states and choices, until a good state is come to"
    private static void worstOfAll() {
        HealBench b = bench(4, "", "00", "0<x>x-1");
        due("from the last state", b.worst(), 6);
        b.scheduler(1);
        due("all at a time", b.worst(), 3);
        b.scheduler(2);
        due("any", b.worst(), 6);
        aim(b, "x=x");
        due("all are good", b.worst(), 0);
        aim(b, "x<3");
        due("just the 3s count", b.worst(), 6 - 2);
        b = bench(4, "", "00", "i=0&(x=1|x=3)>0", "i=0&x=2>1", "i=1&x=3&l=2>0");
        due("neither the first nor the last is the worst", b.worst(), 3);
        due("far(11)", b.far(11), 3);
        due("far(15)", b.far(15), 1);
    }

    // 17, 18: "NONE when the verdict is not 0"
    private static void noWorst() {
        String[] aims = {"x=0", "x=1", "x#x"};
        String[] rules = {"x=0>1", "i=0&x=0>1", "0=0>x"};
        for (int v = 1; v <= 3; v++) {
            HealBench b = bench(2, "", "00", rules[v - 1]);
            aim(b, aims[v - 1]);
            due("search()", b.search(), v);
            due("worst() for " + v, b.worst(), NONE);
            for (int s = -1; s <= 4; s++) {
                due("far(" + s + ") for " + v, b.far(s), NONE);
            }
            b.graph(2, 2);
            due("worst() for 0", b.worst(), 0);
            due("far(3) for 0", b.far(3), 0);
        }
    }

    // 18: "or there is no such state"
    private static void noSuchState() {
        for (int n = 2; n <= 5; n++) {
            for (int k = 2; k <= 4; k++) {
                HealBench b = new HealBench();
                b.graph(5, 4);
                b.search();
                int states = b.graph(n, k);
                rule(b, "x#0>0");
                due("far(-1)", b.far(-1), NONE);
                due("far(0)", b.far(0), 0);
                due("far of the last", b.far(states - 1), n);
                due("far of one more", b.far(states), NONE);
                due("far of two more", b.far(states + 1), NONE);
                for (int x : WRONG) {
                    due("far(" + x + ")", b.far(x), NONE);
                }
            }
        }
    }

    // 19: "State i of the bad run, from 0; NONE when it has none such (or there is none)."
    private static void badPlaces() {
        String[] aims = {"x=x", "x=0", "x=1", "x#x"};
        String[] rules = {"x=0>1", "x=0>1", "i=0&x=0>1", "0=0>1-x"};
        int[][] runs = {{}, {0, 2}, {2}, {0, 2, 0}};
        for (int v = 0; v <= 3; v++) {
            HealBench b = bench(2, "", "00", rules[v]);
            aim(b, aims[v]);
            for (int i = -3; i <= 6; i++) {
                boolean is = i >= 0 && i < runs[v].length;
                due("bad(" + i + ") for " + v, b.bad(i), is ? runs[v][i] : NONE);
            }
            for (int x : WRONG) {
                due("bad(" + x + ") for " + v, b.bad(x), NONE);
            }
            due("search()", b.search(), v);
        }
        HealBench b = bench(2, "", "00", "0=0>1-x");
        due("a long one", b.bad(2), 0);
        b.aim(2);
        rule(b, "x=9>0");
        due("the same", b.bad(2), 0);
        aim(b, "x=0");
        due("a shorter one has no more of it", b.bad(2), NONE);
        due("but its own", b.bad(1), 2);
        aim(b, "x=x");
        due("none has none of it", b.bad(0), NONE);
    }

    // 20: "How many states are good."
    private static void goodsFromNoneToAll() {
        for (int n = 2; n <= 5; n++) {
            for (int k = 2; k <= 4; k++) {
                HealBench b = new HealBench();
                b.graph(n, k);
                due("all", b.goods(), states(n, k));
                aim(b, "x#x");
                due("none", b.goods(), 0);
                aim(b, "x=k-1");
                due("the last", b.goods(), 1);
                aim(b, "x=0");
                due("the first", b.goods(), 1);
                aim(b, "0<x");
                due("those without 0", b.goods(), states(n, k - 1));
                rule(b, "i=0&x=0>1");
                b.aim(0);
                due("kind 0", b.goods(), states(n, k) / k);
                b.aim(1);
                due("kind 1", b.goods(), states(n, k) / k * (k - 1));
            }
        }
    }

    // 20: it is told whatever the verdict, the scheduler and the state are
    private static void goodsAlways() {
        HealBench b = bench(2, "", "00", "x=0>1");
        aim(b, "x=0");
        due("search()", b.search(), 1);
        due("goods() for 1", b.goods(), 1);
        b.scheduler(2);
        b.set(0, 1);
        due("goods() of another scheduler and state", b.goods(), 1);
        aim(b, "x=2");
        due("search()", b.search(), 2);
        due("goods() for 2", b.goods(), 0);
        aim(b, "i=1|x=0");
        rule(b, "x=1>1");
        due("goods() for 1", b.goods(), 2);
        aim(b, "i=1|x=1");
        due("search()", b.search(), 3);
        due("goods() for 3", b.goods(), 2);
    }

    public static void main(String[] args) {
        newObject();
        graphSizes();
        graphIsNew();
        graphTakes();
        graphLeavesText();
        mostEdges();
        noEdge();
        edgeAfterSearch();
        typeable();
        fullText();
        fullRules();
        faultyRule();
        ruleTakesText();
        dropAll();
        aimKinds();
        aimFault();
        schedulers();
        setMatrix();
        setCounts();
        noSuchNode();
        fireEdges();
        goodAndState();
        countMatrix();
        countsSince();
        worstOfAll();
        noWorst();
        noSuchState();
        badPlaces();
        goodsFromNoneToAll();
        goodsAlways();
        end();
    }
}
