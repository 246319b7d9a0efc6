/** The edges that the document's 'Terms' name, but for texts: above each test stand the words that it is for. */
public final class TermsTest extends Answers {
    // "There are N NODES, 0 .. N - 1"
    private static void nodes() {
        for (int n = 2; n <= 5; n++) {
            HealBench b = new HealBench();
            b.graph(n, 2);
            due("count(2)", b.count(2), n);
            for (int a = -2; a <= 7; a++) {
                boolean is = a >= 0 && a < n;
                due(n + " nodes: value(" + a + ")", b.value(a), is ? 0 : NONE);
                due(n + " nodes: enabled(" + a + ")", b.enabled(a), is ? 0 : NONE);
                due(n + " nodes: set(" + a + ", 0)", b.set(a, 0), is ? 0 : NONE);
                due(n + " nodes: edge(" + a + ", 0)", b.edge(a, 0) != NONE, is && a != 0);
            }
        }
    }

    // "with EDGES between some; two that have an edge are NEIGHBOURS"
    private static void neighbours() {
        for (int a = 0; a < 5; a++) {
            for (int c = 0; c < 5; c++) {
                HealBench b = bench(2, "", "00000");
                b.edge(a, c);
                for (int node = 0; node < 5; node++) {
                    dueHolds(b, node, "Ej=j", a != c && (node == a || node == c));
                }
                dueHolds(b, a, "Ej=" + c, a != c);
                dueHolds(b, c, "Ej=" + a, a != c);
            }
        }
    }

    // "Each node has a VALUE, 0 .. K - 1"
    private static void values() {
        for (int k = 2; k <= 4; k++) {
            for (int a = 0; a < 3; a++) {
                HealBench b = new HealBench();
                b.graph(3, k);
                int before = 0;
                for (int x = -2; x <= 6; x++) {
                    boolean is = x >= 0 && x < k;
                    due("K " + k + ": set(" + a + ", " + x + ")", b.set(a, x), is ? before : NONE);
                    before = is ? x : before;
                    due("K " + k + ": value(" + a + ")", b.value(a), before);
                }
            }
        }
    }

    // "A STATE is a row of values; its number is that of node 0, times K, and that of node 1, and so on"
    private static void stateNumbers() {
        for (int n = 2; n <= 5; n++) {
            for (int k = 2; k <= 4; k++) {
                HealBench b = new HealBench();
                int states = b.graph(n, k);
                int weight = states / k;
                due("the least", b.state(), 0);
                for (int a = 0; a < n; a++) {
                    b.set(a, 1);
                    due("node " + a + " of " + n + " is 1, K " + k, b.state(), weight);
                    b.set(a, 0);
                    weight /= k;
                }
                for (int a = 0; a < n; a++) {
                    b.set(a, k - 1);
                }
                due("the greatest", b.state(), states - 1);
            }
        }
    }

    // "RULES, at most 6, are numbered from 0."
    private static void mostRules() {
        HealBench b = bench(4, "", "00");
        for (int r = 0; r < 6; r++) {
            due("rule " + r, rule(b, "x=" + (5 - r) + ">0"), r + 1);
        }
        due("a seventh", rule(b, "0=0>0"), FULL);
        due("none of the last", b.enabled(0), 6);
        for (int x = 0; x < 4; x++) {
            b.set(1, x);
            due("enabled(1) when it is " + x, b.enabled(1), 5 - x + 1);
        }
    }

    // "A node is ENABLED when some rule's guard holds for it; the first such rule is the one by which it MOVES"
    private static void firstRule() {
        HealBench b = bench(4, "", "00");
        due("without rules", b.enabled(0), 0);
        due("without rules no step", b.fire(1), NONE);
        for (int holding = 0; holding < 64; holding++) {
            b = bench(4, "", "000");
            int first = 0;
            for (int r = 5; r >= 0; r--) {
                first = (holding >> r & 1) != 0 ? r + 1 : first;
            }
            for (int r = 0; r < 6; r++) {
                rule(b, ((holding >> r & 1) != 0 ? "i=1" : "i=7") + ">" + (r + 1));
            }
            due("enabled(1) by " + holding, b.enabled(1), first);
            due("enabled(0) by " + holding, b.enabled(0), 0);
            due("fire(2) by " + holding, b.fire(2), first == 0 ? NONE : first % 4 * 4);
        }
    }

    // "its value becomes that rule's sum modulo K (0 .. K - 1)"
    private static void newValues() {
        for (int k = 2; k <= 4; k++) {
            for (int v = -20; v <= 20; v++) {
                HealBench b = new HealBench();
                b.graph(2, k);
                b.set(1, 1);
                due("a rule for " + v, rule(b, "0=0>" + sum(v)), 1);
                due("node 1 becomes " + v, b.fire(2), Math.floorMod(v, k));
                due("node 0 becomes " + v, b.fire(1), Math.floorMod(v, k) * (k + 1));
            }
        }
        HealBench b = bench(4, "", "00", "0=0>M", "0=0>m");
        due("M without neighbours is -1", b.fire(1), 12);
        b = bench(3, "", "11", "0=0>m");
        due("m without neighbours is K", b.fire(2), 3);
        b = bench(3, "", "11", "0=0>n+k%");
        due("a sum with %", b.fire(2), 3 + 2);
    }

    // "a CHOICE of enabled nodes, not none"; "0: choices of one node; 1: just the choice of all that are enabled;
    // 2: any choice"; "Choices are told by bits, node 0 by 1, node 1 by 2, and so on."
    private static void choices() {
        for (int kind = 0; kind < 3; kind++) {
            for (int able = 0; able < 32; able++) {
                for (int choice = -1; choice <= 64; choice++) {
                    boolean may = choice > 0 && (choice & ~able) == 0
                        && (kind == 0 ? Integer.bitCount(choice) == 1 : kind == 2 || choice == able);
                    HealBench b = bench(2, "", "00000");
                    int after = 0;
                    for (int a = 0; a < 5; a++) {
                        b.set(a, able >> a & 1);
                        after = after * 2 + (able >> a & ~choice >> a & 1);
                    }
                    rule(b, "x=1>0");
                    b.scheduler(kind);
                    String what = "scheduler " + kind + ", enabled " + able + ": ";
                    due(what + "fire(" + choice + ")", b.fire(choice), may ? after : NONE);
                    due(what + "steps", b.count(0), may ? 1 : 0);
                    due(what + "moves", b.count(1), may ? Integer.bitCount(choice) : 0);
                }
            }
        }
    }

    // "In a STEP a CHOICE of enabled nodes, not none, move at the same time: all read the state before it."
    private static void atTheSameTime() {
        HealBench b = bench(4, "", "0123", "0=0>u");
        b.scheduler(2);
        due("all take that of the next", b.fire(15), 1 * 64 + 2 * 16 + 3 * 4);
        due("two do", b.fire(9), 2 * 64 + 2 * 16 + 3 * 4 + 1);
        b = bench(4, "010203", "1230", "A(x<y)>M", "Ex<y>m");
        b.scheduler(2);
        due("1 and 2 see node 0 as it was", b.enabled(1), 0);
        due("node 3 moves", b.fire(8), 1 * 64 + 2 * 16 + 3 * 4 + 1);
        due("node 0 by the second", b.enabled(0), 2);
        due("node 0 moves to the least", b.fire(1), 1 * 64 + 2 * 16 + 3 * 4 + 1);
        b = bench(2, "01", "00", "Ax=y>1-x");
        b.scheduler(1);
        due("both see the same", b.fire(3), 3);
        due("neither sees the other's new value", b.fire(3), 0);
    }

    // "GOOD is, by kind, a state with just one enabled node (0), one without (1)"
    private static void goodByEnabled() {
        for (int able = 0; able < 32; able++) {
            HealBench b = bench(2, "", "00000", "x=1>0");
            for (int a = 0; a < 5; a++) {
                b.set(a, able >> a & 1);
            }
            b.aim(0);
            due("kind 0, enabled " + able, b.good(), Integer.bitCount(able) == 1);
            b.aim(1);
            due("kind 1, enabled " + able, b.good(), able == 0);
        }
        HealBench b = bench(2, "", "00000", "x=1>0");
        b.aim(0);
        due("goods() of kind 0", b.goods(), 5);
        b.aim(1);
        due("goods() of kind 1", b.goods(), 1);
    }

    // "or one in which a guard that was read holds for every node (2)"
    private static void goodByGuard() {
        for (int ones = 0; ones < 32; ones++) {
            HealBench b = bench(2, "", "00000", "x=1>0");
            for (int a = 0; a < 5; a++) {
                b.set(a, ones >> a & 1);
            }
            aim(b, "x=1");
            due("kind 2, ones " + ones, b.good(), ones == 31);
            aim(b, "!x=1");
            due("kind 2, ones " + ones, b.good(), ones == 0);
        }
        HealBench b = bench(2, "0112", "0000");
        aim(b, "E0=0");
        due("one without neighbours", b.goods(), 0);
        aim(b, "A0=0");
        due("all hold also without", b.goods(), 16);
        aim(b, "i<3");
        due("not for the last", b.goods(), 0);
        aim(b, "0<i");
        due("not for the first", b.goods(), 0);
    }

    // "At first it is kind 1."
    private static void goodAtFirst() {
        HealBench b = new HealBench();
        due("goods() without rules", b.goods(), 4);
        rule(b, "x=0>0");
        due("goods() with one", b.goods(), 1);
        due("good()", b.good(), false);
        b = bench(3, "", "00", "x=0>0");
        due("goods() of another graph", b.goods(), 4);
    }

    // "THE VERDICT: 1 if some step leads from a good state to one that is not; otherwise 2 if some state that is not
    // good has no enabled node; otherwise 3 if one can make steps for ever without coming to a good state; otherwise 0"
    private static void verdictOrder() {
        for (int kind = 0; kind < 3; kind++) {
            HealBench b = new HealBench();
            b.scheduler(kind);
            aim(b, "x=0");
            rule(b, "i=1&x=1&u=0>1");
            rule(b, "i=0&x=0&u=0>1");
            dueRun("1, 2 and 3 are there", b, 1, "0 2");
            b.drop();
            dueRun("2 and 3 are there", b, 2, "2");
            rule(b, "i=0&x=1>1");
            dueRun("3 is there", b, 3, "1 1");
            rule(b, "i=0&x=0&u=0>1");
            dueRun("1 and 3 are there", b, 1, "0 2");
            b.drop();
            b.drop();
            b.drop();
            rule(b, "x=1>0");
            dueRun("none is there", b, 0, "");
            due("worst()", b.worst(), kind == 1 ? 1 : 2);
            rule(b, "i=0&x=0&u=0>1");
            dueRun("1 alone is there", b, 1, "0 2");
        }
    }

    // "1 if some step leads from a good state to one that is not"
    private static void verdictOne() {
        HealBench b = bench(2, "", "00", "0=0>1-x");
        aim(b, "x=x");
        dueRun("steps among good states", b, 0, "");
        b.aim(0);
        dueRun("none is good, all steps go on", b, 3, "0 2 0");
        aim(b, "i=0|x=0");
        dueRun("by a choice of one", b, 1, "0 1");
        b.scheduler(1);
        dueRun("by that of all", b, 1, "0 3");
        b = bench(2, "", "00", "x=0&u=0>1");
        aim(b, "i=1|x=u");
        dueRun("apart they leave", b, 1, "0 2");
        b.scheduler(1);
        dueRun("together they do not, but others stand still", b, 2, "1");
        rule(b, "x=0>1");
        dueRun("together they do not", b, 0, "");
        b.scheduler(2);
        dueRun("any may be apart", b, 1, "0 2");
    }

    // "2 if some state that is not good has no enabled node"
    private static void verdictTwo() {
        HealBench b = bench(2, "", "00");
        aim(b, "x=1");
        dueRun("without rules", b, 2, "0");
        aim(b, "x=2");
        dueRun("without good states", b, 2, "0");
        b.aim(0);
        dueRun("none is enabled, so none good", b, 2, "0");
        b.aim(1);
        dueRun("none is enabled, so all good", b, 0, "");
        aim(b, "x=0");
        rule(b, "x=1&u=0>0");
        dueRun("just the last stands still", b, 2, "3");
        rule(b, "x=1>0");
        dueRun("none does", b, 0, "");
    }

    // "3 if one can make steps for ever without coming to a good state"
    private static void verdictThree() {
        HealBench b = bench(2, "", "00", "x=0>0");
        dueRun("a step to the same state", b, 3, "0 0");
        b.scheduler(1);
        dueRun("all to the same", b, 3, "0 0");
        b = bench(2, "", "00", "i=0&x=0>0", "i=1&u=0>1-x", "i=0>1");
        aim(b, "i=1|x=1");
        dueRun("good by none of the choices", b, 3, "0 0");
        b = bench(3, "", "00", "i=0&x=0>1", "i=0&x=1>2", "i=1&l=0>x");
        aim(b, "i=1|x=2");
        dueRun("for ever by one choice, to good by another", b, 3, "0 0");
        b.scheduler(1);
        dueRun("the choice of all comes to good", b, 0, "");
        due("in two steps", b.worst(), 2);
    }

    // "for 1: the least good state from which such a step leads, and what comes of the least such choice"
    private static void badRunOne() {
        HealBench b = bench(3, "", "00", "x=1>2");
        aim(b, "x<2");
        dueRun("not from 0", b, 1, "1 2");
        b = bench(3, "", "00", "x=0>2");
        aim(b, "x<2");
        dueRun("the least choice, not the least state", b, 1, "0 6");
        b.scheduler(1);
        dueRun("all", b, 1, "0 8");
        b.scheduler(2);
        dueRun("any", b, 1, "0 6");
        b = bench(3, "", "00", "i=0&x=0>1", "i=1&x=0>2");
        aim(b, "x<2");
        dueRun("not the least of all choices", b, 1, "0 2");
        b.scheduler(2);
        dueRun("nor of any", b, 1, "0 2");
        b.scheduler(1);
        dueRun("together", b, 1, "0 5");
        b = bench(2, "", "000", "i=1&x=1&u=1>0", "i=2&x=1&l=1>0");
        aim(b, "i=0|x=1");
        dueRun("the least of those that are good", b, 1, "3 1");
        b = bench(2, "", "000", "x=1&l=1&u=1>0");
        aim(b, "x=1");
        dueRun("from the last state", b, 1, "7 3");
        b = bench(2, "", "00", "0<i&x=1&l=1>0", "i=0&x=1&u=1>1");
        aim(b, "x=1");
        b.scheduler(2);
        dueRun("choice 1 stays in good, 2 does not", b, 1, "3 2");
    }

    // "for 2: the least such state"
    private static void badRunTwo() {
        HealBench b = bench(3, "", "00", "x=0>0");
        aim(b, "x=1");
        dueRun("4 is good, 0 to 3 and 6 have enabled ones", b, 2, "5");
        due("bad(1)", b.bad(1), NONE);
        aim(b, "0<x&(x=1|u=1)");
        dueRun("just the last", b, 2, "8");
    }

    // "for 3: the least state from which one can go on for ever outside good, and then, again and again, what comes of
    // the least choice with which one still can, up to the first state that was there before (that one, too)"
    private static void badRunThree() {
        HealBench b = bench(4, "", "00", "i=0&x<3>x+1", "i=0>2");
        dueRun("a way, then a ring of two", b, 3, "0 4 8 12 8");
        b = bench(4, "", "00", "i=0>x+1");
        dueRun("a ring of four", b, 3, "0 4 8 12 0");
        b = bench(4, "", "00", "i=0&x<3>x+1", "i=0>x");
        dueRun("a way, then the same", b, 3, "0 4 8 12 12");
        b = bench(3, "", "00", "i=0&x=1>0", "i=0&x=2>2");
        aim(b, "i=1|x=0");
        dueRun("0 to 2 are good, 3 to 5 come to good", b, 3, "6 6");
        b = bench(2, "", "000", "0=0>1-x");
        dueRun("the least of one", b, 3, "0 4 0");
        b.scheduler(1);
        dueRun("all", b, 3, "0 7 0");
        b.scheduler(2);
        dueRun("the least of any", b, 3, "0 4 0");
        b = bench(2, "", "000", "i=0&x=0>1", "i=2>1-x");
        aim(b, "i#0|x=1");
        dueRun("choice 1 is good, 4 goes on", b, 3, "0 1 0");
        b = bench(3, "", "00", "i=0&x=0>1", "i=0&x=1>2", "i=1&l=0>x+1");
        aim(b, "i=1|x=2");
        dueRun("choice 1 comes to good in the end", b, 3, "0 1 2 0");
    }

    public static void main(String[] args) {
        nodes();
        neighbours();
        values();
        stateNumbers();
        mostRules();
        firstRule();
        newValues();
        choices();
        atTheSameTime();
        goodByEnabled();
        goodByGuard();
        goodAtFirst();
        verdictOrder();
        verdictOne();
        verdictTwo();
        verdictThree();
        badRunOne();
        badRunTwo();
        badRunThree();
        end();
    }
}
