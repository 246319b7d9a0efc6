import java.util.ArrayList;
import java.util.List;

/** What each promise of the document asks, with the answers worked out by hand. */
public final class PromiseTest extends Answers {
    private static void newObject() {
        HealBench b = new HealBench();
        int[] counts = {0, 0, 2, 0, 0, 2, 0};
        for (int what = 0; what < counts.length; what++) {
            due("new: count(" + what + ")", b.count(what), counts[what]);
        }
        due("new: state()", b.state(), 0);
        due("new: value(0)", b.value(0), 0);
        due("new: value(1)", b.value(1), 0);
        due("new: value(2)", b.value(2), NONE);
        due("new: enabled(0)", b.enabled(0), 0);
        due("new: good()", b.good(), true);
        due("new: search()", b.search(), 0);
        due("new: worst()", b.worst(), 0);
        due("new: far(3)", b.far(3), 0);
        due("new: far(4)", b.far(4), NONE);
        due("new: goods()", b.goods(), 4);
        due("new: bad(0)", b.bad(0), NONE);
        due("new: fire(1)", b.fire(1), NONE);
        due("new: drop()", b.drop(), NONE);
        due("new: edge(0, 1)", b.edge(0, 1), 1);
        due("new: scheduler(0)", b.scheduler(0), 0);
        due("new: rule()", b.rule(), -10);
    }

    private static void graph() {
        HealBench b = new HealBench();
        due("graph(2, 2)", b.graph(2, 2), 4);
        due("graph(3, 3)", b.graph(3, 3), 27);
        due("graph(5, 2)", b.graph(5, 2), 32);
        due("graph(2, 4)", b.graph(2, 4), 16);
        due("graph(5, 4)", b.graph(5, 4), 1024);
        due("far(1023)", b.far(1023), 0);
        due("far(1024)", b.far(1024), NONE);

        b = bench(3, "01", "121", "x=1>2");
        b.scheduler(2);
        b.aim(0);
        say(b, "x=");
        b.fire(1);
        int[][] refused = {{1, 2}, {6, 2}, {2, 1}, {2, 5}, {0, 0}, {-3, 3}, {3, -3}};
        for (int[] r : refused) {
            due("graph(" + r[0] + ", " + r[1] + ")", b.graph(r[0], r[1]), NONE);
        }
        for (int x : WRONG) {
            due("graph(" + x + ", 2)", b.graph(x, 2), NONE);
            due("graph(2, " + x + ")", b.graph(2, x), NONE);
        }
        int[] kept = {1, 1, 3, 1, 1, 3, 2};
        for (int what = 0; what < kept.length; what++) {
            due("refused graph keeps count(" + what + ")", b.count(what), kept[what]);
        }
        due("refused graph keeps the state", b.state(), 2 * 9 + 2 * 3 + 1);
        due("refused graph keeps the aim", b.good(), true);

        due("graph(4, 3)", b.graph(4, 3), 81);
        int[] renewed = {0, 0, 4, 0, 0, 3, 2};
        for (int what = 0; what < renewed.length; what++) {
            due("graph makes count(" + what + ")", b.count(what), renewed[what]);
        }
        due("graph makes the state", b.state(), 0);
        due("graph makes good of kind 1", b.goods(), 81);
        due("graph makes no edges", b.edge(0, 1), 1);
        due("graph leaves the scheduler", b.scheduler(0), 2);
        due("graph leaves the text", rule(b, "0>0"), 1);

        b = bench(2, "", "11");
        due("aim at a guard", aim(b, "x=1"), 0);
        due("the guard holds in one state", b.goods(), 1);
        b.graph(2, 2);
        due("graph takes the guard for good", b.goods(), 4);
    }

    private static void edge() {
        HealBench b = bench(2, "", "0000");
        due("edge(0, 1)", b.edge(0, 1), 1);
        due("edge(3, 1)", b.edge(3, 1), 2);
        due("edge(0, 1) again", b.edge(0, 1), NONE);
        due("edge(1, 0) again", b.edge(1, 0), NONE);
        due("edge(1, 3) again", b.edge(1, 3), NONE);
        due("edge(2, 2)", b.edge(2, 2), NONE);
        due("edge(0, 4)", b.edge(0, 4), NONE);
        due("edge(4, 0)", b.edge(4, 0), NONE);
        for (int x : WRONG) {
            due("edge(0, " + x + ")", b.edge(0, x), NONE);
            due("edge(" + x + ", 0)", b.edge(x, 0), NONE);
            due("edge(" + x + ", " + x + ")", b.edge(x, x), NONE);
        }
        due("count(3)", b.count(3), 2);
        due("edge(2, 3)", b.edge(2, 3), 3);
        rule(b, "d=2>1");
        int[] twoNeighbours = {0, 1, 0, 1};
        for (int a = 0; a < 4; a++) {
            due("d = 2 of " + a, b.enabled(a), twoNeighbours[a]);
        }
        due("goods() before one more", b.goods(), 0);
        b.edge(1, 2);
        b.edge(0, 3);
        due("count(3)", b.count(3), 5);
        due("all have 2 or 3", b.enabled(0), 1);
        due("d of 1 is 3", b.enabled(1), 0);

        b = bench(2, "", "00", "d=0>0");
        due("no state is good before the edge", b.goods(), 0);
        b.edge(1, 0);
        due("all are after it", b.goods(), 4);
    }

    private static void type() {
        HealBench b = new HealBench();
        due("type(31)", b.type(31), NONE);
        due("type(127)", b.type(127), NONE);
        for (int x : WRONG) {
            due("type(" + x + ")", b.type(x), NONE);
        }
        due("type('x' + 65536)", b.type('x' + 65536), NONE);
        due("type(32)", b.type(32), 1);
        due("type(126)", b.type(126), 2);
        for (int i = 3; i <= 48; i++) {
            due("type('x')", b.type('x'), i);
        }
        due("a 49th", b.type('x'), FULL);
        due("a 49th that is refused", b.type(31), NONE);
        due("count(6)", b.count(6), 48);
        due("its fault", b.rule(), -10);
        due("count(6) when read", b.count(6), 0);

        String longest = "x=0&x=0&x=0&x=0&x=0&x=0&x=0&x=0&x=0&x=0&x=0>1+1";
        due("the longest text's length", longest.length(), 47);
        due("it is a rule", rule(b, longest), 1);
        due("so is one with % behind", rule(b, longest + "%"), 2);
        due("and with too many, what is typed is read", rule(b, longest + "%%"), 3);
    }

    private static final String[] RIGHT = {
        "x=0>1", "x#0>1", "x<0>1", "x=0%>1", "x%=0>1", "x+1-2%<k%>x-1%", "x+i+d+m+M+l+u+n+k=0>x+i+d+m+M+l+u+n+k",
        "0=1>2", "3<4>5", "6#7>8", "9=9>9", "A(y=0&j=1)>0", "Ay=0&Ey=1>0", "E(y=0)|A(y=1)>0", "!Ey=0>0", "A!y=0>0",
        "!!!!!!!!x=0>1", "((((((((x=0))))))))>1", "!x=0&!x=0&!x=0&!x=0&!x=0&!x=0&!x=0&!x=0&!x=0>1", "(Ey=0)&!!!!!!!!x=0>1",
        "!(x=0|!(x=1&x=2))>0", "(((((((Ey=0)))))))>1", "!!!!!!!!x=0|!!!!!!!!x=0>1", "E(!(j<i)&(y=x|y<2))>m-M",
        "A!!!!!!!y=0>1", "E!!!!!!!y=0>1", "!!!!!!!Ay=0>1", "(((!!!!Ey=0)))>1",
    };

    /** Texts for rule() with the places of their faults. */
    private static final Object[][] FAULTY = {
        {"", 0}, {"x", 1}, {"x=", 2}, {"x=0", 3}, {"x=0>", 4}, {"x=0>1>", 5}, {"x=0>1=1", 5}, {"x=0>1&1", 5},
        {" x=0>1", 0}, {"x =0>1", 1}, {"x=0>1 ", 5}, {"x=0>y", 4}, {"x=0>j", 4}, {"y=0>0", 0}, {"j=0>0", 0}, {"x=y>0", 2},
        {"Ay=0>y", 5}, {"Ex=j>1+j", 7}, {"Ay=0&y=0>0", 5}, {"Ay=0|j=0>0", 5}, {"A(y=0)&y=1>0", 7}, {"!(Ey=0)&!y=1>0", 9},
        {"AEy=0>0", 1}, {"EAy=0>0", 1}, {"AAy=0>0", 1}, {"A!Ey=0>0", 2}, {"A(x=0&Ey=0)>0", 6}, {"E((y=0|!A", 8},
        {"!!!!!!!!!x=0>1", 8}, {"(((((((((x=0", 8}, {"(((((((A(y=0", 8}, {"!!!!!!!!A", 8}, {"!!!!!!!!E", 8}, {"!!!!!!!!(", 8},
        {"((((((((x=0))))))))&(((((((((", 28}, {"((((((((x=0)&!!x=0", 14}, {"((((((((x=0&!", 12},
        {"!!!!!!!!x=0|!!!!!!!!!", 20}, {"!!!!!!!!", 8}, {"A!!!!!!!!", 8}, {"E!!!!!!!!", 8}, {"!!!!E!!!!", 8}, {"(((((((E(y=0", 8},
        {"x%%=0", 2}, {"x%+1=0", 2}, {"x%-1=0", 2}, {"x+%=0>0", 2}, {"x+=0", 2}, {"x+-1=0", 2}, {"+x=0", 0}, {"-1=0", 0},
        {"%=0", 0}, {"x==0", 2}, {"x!=0", 1}, {"x=0=0", 3}, {"x=0<0", 3}, {"x=0#", 3}, {"(x=0>1", 4}, {"(x)=0", 2},
        {"x=0)>1", 3}, {"()", 1}, {"(", 1}, {"(x=0", 4}, {"x=0&>1", 4}, {"x=0|>1", 4}, {"x=0||x=1", 4}, {"x=0&&x=1", 4},
        {"&", 0}, {"|x=0", 0}, {">1", 0}, {"x>1", 1}, {"10=x>0", 1}, {"x=10>0", 3}, {"xi=0", 1}, {"X=0", 0}, {"a=0", 0},
        {"~", 0}, {"!", 1}, {"A", 1}, {"E", 1}, {"x=0>!x", 4}, {"x=0>(1)", 4}, {"x=0>A", 4}, {"x=0>x%%", 6}, {"x=0>x%+1", 6},
        {"x=0>1+", 6}, {"x=0>-1", 4}, {"x=0>1-", 6}, {"x=0x=1>0", 3}, {"x=0!x=1>0", 3}, {"(x=0)(x=1)>0", 5}, {"(x=0)=1>0", 5},
        {"(x=0)%", 5}, {"!(x=0))", 6}, {"x<=0", 2}, {"x*2=0", 1}, {"x=0&A", 5}, {"x=0|(", 5}, {"z", 0}, {"L=0", 0}, {"N=0", 0},
    };

    private static void rule() {
        for (String text : RIGHT) {
            due("length of " + text, text.length() <= 48, true);
            due("rule " + text, rule(new HealBench(), text), 1);
        }
        for (Object[] f : FAULTY) {
            HealBench b = new HealBench();
            rule(b, "x=0>1");
            due("rule " + f[0], rule(b, (String) f[0]), -10 - (int) f[1]);
            due("typed after " + f[0], b.count(6), 0);
            due("rules after " + f[0], b.count(4), 1);
            due("moves after " + f[0], b.enabled(0), 1);
        }
        HealBench b = new HealBench();
        b.set(0, 1);
        for (int i = 1; i <= 6; i++) {
            due("rule " + i, rule(b, i == 6 ? "x=1>0" : "x=2>0"), i);
        }
        due("a text is typed", b.type('x'), 1);
        due("a seventh that has a fault", b.rule(), FULL);
        due("it is gone", b.count(6), 0);
        due("a seventh", rule(b, "x=0>0"), FULL);
        due("it is gone, too", b.count(6), 0);
        due("six are left", b.count(4), 6);
        due("the sixth moves", b.enabled(0), 6);
        due("none moves", b.enabled(1), 0);
        due("nothing is typed", b.rule(), FULL);
        b.drop();
        due("nothing is typed, but it has room", b.rule(), -10);
        due("it has room", rule(b, "x=0>0"), 6);
    }

    private static void drop() {
        HealBench b = bench(2, "", "00", "x=0>1", "x=1>0");
        due("search() of two", b.search(), 3);
        say(b, "x=0");
        due("drop()", b.drop(), 1);
        due("count(4)", b.count(4), 1);
        due("the text stays", b.count(6), 3);
        due("search() of one", b.search(), 0);
        due("worst()", b.worst(), 2);
        due("the first is left", b.enabled(0), 1);
        b.set(0, 1);
        due("the last is gone", b.enabled(0), 0);
        due("drop()", b.drop(), 0);
        due("drop() of none", b.drop(), NONE);
        due("drop() of none again", b.drop(), NONE);
        due("count(4)", b.count(4), 0);
        due("worst() without rules", b.worst(), 0);
        due("what was typed before is still there", rule(b, "|x=1>0"), 1);
        due("it moves", b.enabled(0), 1);
    }

    private static void aim() {
        HealBench b = bench(3, "", "01", "x=0>1");
        due("kind 1 at first", b.goods(), 4);
        due("aim(0)", b.aim(0), 0);
        due("kind 0", b.goods(), 4);
        due("kind 0 in 01", b.good(), true);
        due("aim(1)", b.aim(1), 0);
        due("kind 1 in 01", b.good(), false);
        due("aim(2)", aim(b, "x<2"), 0);
        due("the text is gone", b.count(6), 0);
        due("kind 2", b.goods(), 4);
        due("kind 2 in 01", b.good(), true);
        b.set(1, 2);
        due("kind 2 in 02", b.good(), false);
        due("another kind 2", aim(b, "x=0|x=2"), 0);
        due("another kind 2 in 02", b.good(), true);

        say(b, "x");
        due("aim(3)", b.aim(3), NONE);
        for (int x : WRONG) {
            due("aim(" + x + ")", b.aim(x), NONE);
        }
        due("refused, the text stays", b.count(6), 1);
        due("aim(0)", b.aim(0), 0);
        due("aim(0) leaves the text", b.count(6), 1);
        due("aim(1)", b.aim(1), 0);
        due("aim(1) leaves the text", b.count(6), 1);
        due("aim(2) of x", b.aim(2), -11);
        due("the text is gone, too", b.count(6), 0);
        due("aim(2) of nothing", b.aim(2), -10);
        due("kind 1 stays", b.goods(), 4);

        aim(b, "x=2");
        due("one is good", b.goods(), 1);
        Object[][] faulty = {{"x=1>0", 3}, {"x=1>", 3}, {"x=1)", 3}, {"(x=1", 4}, {"y=1", 0}, {"Ey=1&j", 5}, {"AEy=1", 1},
            {"x=1&", 4}, {"x=1%%", 4}, {"x=1 ", 3}, {"!!!!!!!!!", 8}};
        for (Object[] f : faulty) {
            due("aim(2) of " + f[0], aim(b, (String) f[0]), -10 - (int) f[1]);
            due("typed after " + f[0], b.count(6), 0);
            due("goods() after " + f[0], b.goods(), 1);
        }
        due("a guard with all that it may have", aim(b, "!(Ay=x&x<k)|E(!j=i&y#m%)"), 0);
        due("rules stay", b.count(4), 1);
    }

    private static void scheduler() {
        HealBench b = bench(2, "", "00", "x=0>1");
        due("scheduler(2)", b.scheduler(2), 0);
        due("all paths", b.worst(), 2);
        due("scheduler(3)", b.scheduler(3), NONE);
        for (int x : WRONG) {
            due("scheduler(" + x + ")", b.scheduler(x), NONE);
        }
        due("scheduler(1)", b.scheduler(1), 2);
        due("just one path", b.worst(), 1);
        due("scheduler(1)", b.scheduler(1), 1);
        due("scheduler(0)", b.scheduler(0), 1);
        due("one by one", b.worst(), 2);
        due("scheduler(0)", b.scheduler(0), 0);
    }

    private static void set() {
        HealBench b = bench(4, "", "000", "x=0>1");
        due("set(1, 3)", b.set(1, 3), 0);
        due("set(1, 2)", b.set(1, 2), 3);
        due("set(1, 2)", b.set(1, 2), 2);
        due("set(0, 1)", b.set(0, 1), 0);
        due("state()", b.state(), 1 * 16 + 2 * 4);
        due("fire(4)", b.fire(4), 1 * 16 + 2 * 4 + 1);
        due("set(3, 0)", b.set(3, 0), NONE);
        due("set(0, 4)", b.set(0, 4), NONE);
        for (int x : WRONG) {
            due("set(" + x + ", 0)", b.set(x, 0), NONE);
            due("set(0, " + x + ")", b.set(0, x), NONE);
        }
        due("refused, steps stay", b.count(0), 1);
        due("refused, moves stay", b.count(1), 1);
        due("refused, values stay", b.state(), 25);
        due("set(2, 1) to what it is", b.set(2, 1), 1);
        due("steps from here on", b.count(0), 0);
        due("moves from here on", b.count(1), 0);
    }

    private static void value() {
        HealBench b = bench(3, "", "01201", "x=0>2");
        int[] values = {0, 1, 2, 0, 1};
        for (int a = 0; a < 5; a++) {
            due("value(" + a + ")", b.value(a), values[a]);
        }
        b.fire(8);
        due("value(3) moved", b.value(3), 2);
        due("value(0) did not", b.value(0), 0);
        due("value(5)", b.value(5), NONE);
        for (int x : WRONG) {
            due("value(" + x + ")", b.value(x), NONE);
        }
    }

    private static void enabled() {
        HealBench b = bench(4, "", "0123", "x=1>0", "x<2>0", "x=3>0", "x<3>0", "x=3>1");
        int[] rules = {2, 1, 4, 3};
        for (int a = 0; a < 4; a++) {
            due("enabled(" + a + ")", b.enabled(a), rules[a]);
        }
        due("enabled(4)", b.enabled(4), NONE);
        for (int x : WRONG) {
            due("enabled(" + x + ")", b.enabled(x), NONE);
        }
        b.drop();
        b.drop();
        due("enabled(2) without the fourth", b.enabled(2), 0);
        due("enabled(3) without the fifth", b.enabled(3), 3);
        guards();
    }

    /** Node 4 has no neighbours; 0 has 1 and 2; 3 has 2. */
    private static HealBench five() {
        return bench(4, "010223", "01230");
    }

    private static void guards() {
        String[] of0 = {"x=0", "i=0", "d=2", "m=1", "M=2", "l=0", "u=1", "n=5", "k=4", "Ay<3", "Ey=2", "Ej=1&Ej=2", "Aj#0",
            "A(j=y&x<y)", "Ay=j", "!Ey=3", "E!y=1", "A!y=3", "Ei<j", "A(i=0)", "x=0|x=1&x=2", "!x=1&x=0", "!x=0|x=0",
            "!(x=0&x=1)", "!!x=0", "Ay=1|x=0", "E(y=1|y=9)&x=0", "9-1-1=7", "9-1+1=9", "1-2+1=0", "0-1<0", "0-1%=3",
            "0-9%=3", "9+9%=2", "x-1%=k-1", "k%=0", "4=k", "4%=0", "3=7%", "M-m=1", "2-x-1=1", "0<1", "1#2",
            "!A!y=2", "!E!y<3", "A(y=1|j=2)", "E(y=1&j=1)", "!x<0", "x<k-1%"};
        for (String guard : of0) {
            dueHolds(five(), 0, guard, true);
            dueHolds(five(), 0, "!(" + guard + ")", false);
        }
        String[] of4 = {"x=0", "i=4", "d=0", "m=k", "M=0-1", "M+1=0", "M%=3", "l=3", "u=0", "Ay#y", "A0=1", "!E0=0", "!Ey=y",
            "A(y=0&y=1)"};
        for (String guard : of4) {
            dueHolds(five(), 4, guard, true);
            dueHolds(five(), 4, "!(" + guard + ")", false);
        }
        String[] of3 = {"x=3", "i=3", "d=1", "m=2", "M=2", "l=2", "u=0", "Ay=2", "Ej=2", "E(y<x&j<i)", "A(x-y=1)"};
        for (String guard : of3) {
            dueHolds(five(), 3, guard, true);
        }
        String[] notOf3 = {"x=0&x=3", "(x=3|x=0)&x=2", "x<3", "3<x", "x#3", "Ey=1", "A(y=2&x=2)", "x=7", "x-8=3", "2=x%"};
        for (String guard : notOf3) {
            dueHolds(five(), 3, guard, false);
        }
        HealBench b = bench(3, "", "12");
        dueHolds(b, 0, "l=2&u=2", true);
        dueHolds(b, 1, "l=1&u=1", true);
        dueHolds(b, 1, "m=3&3=k&n=2", true);
    }

    private static void fire() {
        HealBench b = bench(3, "", "0120", "x=0>x+2", "x=2>0-1");
        int[] never = {0, 2, 3, 7, 15, 16, 17, 32, -1, -8, Integer.MIN_VALUE, Integer.MAX_VALUE, 1 << 30};
        for (int kind = 0; kind < 3; kind++) {
            b.scheduler(kind);
            for (int choice : never) {
                due("scheduler " + kind + ": fire(" + choice + ")", b.fire(choice), NONE);
            }
        }
        due("state()", b.state(), 0 * 27 + 1 * 9 + 2 * 3);
        due("no steps", b.count(0), 0);
        b.scheduler(0);
        due("two under 0", b.fire(9), NONE);
        due("all under 0", b.fire(13), NONE);
        due("one under 0", b.fire(8), 17);
        due("the same again, by the second rule", b.fire(8), 17);
        due("another", b.fire(1), 2 * 27 + 17);
        due("steps", b.count(0), 3);
        due("moves", b.count(1), 3);
        b = bench(3, "", "0120", "x=0>x+2", "x=2>0-1");
        b.scheduler(1);
        due("one under 1", b.fire(1), NONE);
        due("two under 1", b.fire(5), NONE);
        due("all under 1", b.fire(13), 2 * 27 + 9 + 6 + 2);
        due("a step", b.count(0), 1);
        due("three moves", b.count(1), 3);
    }

    private static void fireTogether() {
        HealBench b = bench(4, "", "012", "x#u>u");
        b.scheduler(2);
        due("two under 2", b.fire(3), 1 * 16 + 2 * 4 + 2);
        due("moves", b.count(1), 2);
        due("one that is not enabled", b.fire(2), NONE);
        due("one under 2", b.fire(4), 1 * 16 + 2 * 4 + 1);
        due("steps", b.count(0), 2);
        due("moves", b.count(1), 3);
        b = bench(2, "", "01", "x#u>u");
        b.scheduler(1);
        due("they read the state before", b.fire(3), 2);
        due("and again", b.fire(3), 1);
        b = bench(4, "", "00", "x=0>9");
        due("modulo K", b.fire(1), 1 * 4);
        b = bench(3, "", "00", "x=0>1-5");
        due("modulo K below 0", b.fire(2), 2);
        b = bench(3, "01", "02", "Ey=2>m-x", "x=2>M+1");
        due("the first rule", b.fire(1), 8);
        due("its neighbours are 2", b.fire(2), 6);
    }

    private static void good() {
        HealBench b = bench(2, "", "000", "x=0>1");
        b.aim(0);
        due("kind 0, three enabled", b.good(), false);
        b.fire(1);
        due("kind 0, two enabled", b.good(), false);
        b.fire(2);
        due("kind 0, one enabled", b.good(), true);
        b.fire(4);
        due("kind 0, none enabled", b.good(), false);
        b.aim(1);
        due("kind 1, none enabled", b.good(), true);
        b.set(2, 0);
        due("kind 1, one enabled", b.good(), false);
        aim(b, "i=2|x=1");
        due("kind 2, for every node", b.good(), true);
        b.set(0, 0);
        due("kind 2, not for the first", b.good(), false);
        b.set(0, 1);
        b.set(1, 0);
        due("kind 2, not for the second", b.good(), false);
        aim(b, "E0=0");
        due("kind 2, no neighbours", b.good(), false);
        edges(b, "01");
        due("kind 2, one without", b.good(), false);
        edges(b, "12");
        due("kind 2, all with", b.good(), true);
    }

    private static void state() {
        HealBench b = bench(4, "", "12321");
        due("state()", b.state(), 1 * 256 + 2 * 64 + 3 * 16 + 2 * 4 + 1);
        b = bench(3, "", "102");
        due("state()", b.state(), 1 * 9 + 0 * 3 + 2);
        b = bench(2, "", "01");
        due("state()", b.state(), 1);
        b.search();
        due("state() after a search", b.state(), 1);
    }

    private static void count() {
        HealBench b = bench(4, "0112", "000", "x=0>1", "x=1>2");
        b.scheduler(2);
        b.fire(7);
        b.fire(5);
        say(b, "xyz");
        int[] counts = {2, 5, 3, 2, 2, 4, 3};
        for (int what = 0; what < counts.length; what++) {
            due("count(" + what + ")", b.count(what), counts[what]);
        }
        due("count(7)", b.count(7), NONE);
        for (int x : WRONG) {
            due("count(" + x + ")", b.count(x), NONE);
        }
        b.edge(0, 2);
        b.aim(0);
        b.search();
        b.rule();
        b.drop();
        due("steps stay", b.count(0), 2);
        due("moves stay", b.count(1), 5);
        b.graph(2, 2);
        due("steps after graph", b.count(0), 0);
        due("moves after graph", b.count(1), 0);
    }

    private static void search() {
        HealBench b = bench(2, "", "00", "x=0>1");
        dueRun("it heals", b, 0, "");
        b.aim(0);
        dueRun("it leaves good before it stands still", b, 1, "1 3");
        aim(b, "x=0");
        dueRun("it leaves good, the least choice", b, 1, "0 2");
        b.scheduler(1);
        dueRun("it leaves good, the only choice", b, 1, "0 3");
        aim(b, "x=2");
        dueRun("without good states it stands still", b, 2, "3");
        aim(b, "x=x");
        dueRun("all are good", b, 0, "");
        b = bench(2, "", "00", "i=0&x=0>1");
        aim(b, "x=1");
        dueRun("it stands still", b, 2, "2");
        rule(b, "i=1&x=0>0");
        dueRun("it goes on", b, 3, "0 2 2");
        b = bench(2, "", "00", "i=0>1-x", "x=0>0");
        aim(b, "i=0|x=1");
        dueRun("it leaves no good one, but goes on", b, 3, "0 2 0");
        b = bench(3, "", "00", "i=0&x=u&x<2>x+1");
        aim(b, "x=0");
        dueRun("it leaves good", b, 1, "0 3");
        aim(b, "x=2");
        dueRun("2 before 3", b, 2, "1");
        rule(b, "x#2>x");
        dueRun("3 when none stands still", b, 3, "0 3 3");
    }

    private static void searchByChoice() {
        // two that would agree: together they never do, one by one they do
        HealBench b = bench(2, "01", "00", "A(x=y)>1-x");
        dueRun("one by one it heals", b, 0, "");
        due("worst()", b.worst(), 1);
        due("goods()", b.goods(), 2);
        b.scheduler(1);
        dueRun("all at a time it goes on", b, 3, "0 3 0");
        b.scheduler(2);
        dueRun("any choice may be all", b, 3, "0 3 0");
        // 0 -> 1 -> 2 -> 3 -> 2 of node 0, with a 4th state's row before the ring
        b = bench(4, "", "00", "i=0&x<3>x+1", "i=0>2");
        dueRun("a way before the ring", b, 3, "0 4 8 12 8");
        b.scheduler(1);
        dueRun("the same for all", b, 3, "0 4 8 12 8");
        // the least choice by which it can still go on, not the least of all
        b = bench(2, "", "000", "i=0&x=0>1", "i=2&0-1<x>x");
        aim(b, "i#0|x=1");
        dueRun("choice 1 would be good", b, 3, "0 0");
        b.scheduler(2);
        dueRun("choices with 1 would be good", b, 3, "0 0");
        b.scheduler(1);
        dueRun("all at once are good", b, 0, "");
        // neither good states nor those that come to them are where it begins
        b = bench(3, "", "00", "i=0&x=1>0", "i=0&x=2>2");
        aim(b, "i=1|x=0");
        dueRun("only with 2 it goes on", b, 3, "6 6");
        rule(b, "x=0|i=1>x");
        dueRun("and with 1 beside it", b, 3, "3 3");
        // choices by bits, node 0 being the least
        b = bench(2, "", "000", "0=0>1-x");
        b.scheduler(2);
        dueRun("the least choice each time", b, 3, "0 4 0");
        due("no good ones", b.goods(), 0);
        // the least good state that leads out may not be the first that is good
        b = bench(3, "", "00", "i=1&x=2>0");
        aim(b, "i=1|x=2");
        dueRun("it heals not", b, 2, "0");
        aim(b, "i=0&x<2|i=1&0<x");
        dueRun("from 2, not from 1", b, 1, "2 0");
    }

    private static void worst() {
        HealBench b = bench(4, "", "00000", "x<3>x+1");
        due("five times three", b.worst(), 15);
        due("all 1024", b.search(), 0);
        b.scheduler(1);
        due("at once", b.worst(), 3);
        b.scheduler(2);
        due("any", b.worst(), 15);
        b.aim(0);
        due("NONE for 1", b.worst(), NONE);
        aim(b, "x=9");
        due("NONE for 2", b.worst(), NONE);
        rule(b, "0=0>x");
        due("NONE for 3", b.worst(), NONE);
        aim(b, "x=x");
        due("all good", b.worst(), 0);
    }

    private static final String ALL_EDGES = "01020304121314232434";

    /** A number of five digits to the base 4 that counts up: all 1024 states on one way. */
    private static void longWay() {
        for (int first = 0; first < 1024; first += 256) {
            HealBench b = bench(4, ALL_EDGES, "00000", "A(j<i|y=3)&(x<3|Ey<3)>x+1");
            b.scheduler(1);
            due("search()", b.search(), 0);
            due("goods()", b.goods(), 1);
            due("worst()", b.worst(), 1023);
            for (int s = first; s < first + 256; s++) {
                due("far(" + s + ")", b.far(s), 1023 - s);
            }
        }
    }

    private static void far() {
        HealBench b = bench(3, "", "00", "x<2>x+1");
        for (int s = 0; s < 9; s++) {
            due("far(" + s + ")", b.far(s), 4 - s / 3 - s % 3);
        }
        due("far(9)", b.far(9), NONE);
        for (int x : WRONG) {
            due("far(" + x + ")", b.far(x), NONE);
        }
        b.scheduler(1);
        for (int s = 0; s < 9; s++) {
            due("far(" + s + ") at once", b.far(s), 2 - Math.min(s / 3, s % 3));
        }
        // the longer of two ways counts
        b = bench(3, "", "00", "i=0&x<2>2", "i=1&x<2>x+1");
        aim(b, "i=1|x=2");
        due("before node 0 moves", b.far(0), 3);
        due("node 1 at its end", b.far(2), 1);
        due("good", b.far(6), 0);
        rule(b, "0=0>x");
        due("NONE when it goes on", b.far(6), NONE);
    }

    private static void bad() {
        HealBench b = bench(2, "", "00", "x=0>1", "x=1>0");
        dueRun("a ring", b, 3, "0 2 0");
        due("bad(2)", b.bad(2), 0);
        due("bad(3)", b.bad(3), NONE);
        for (int x : WRONG) {
            due("bad(" + x + ")", b.bad(x), NONE);
        }
        b.drop();
        due("bad(0) of none", b.bad(0), NONE);
        aim(b, "x=0");
        due("bad(0)", b.bad(0), 0);
        due("bad(1)", b.bad(1), 2);
        due("bad(2)", b.bad(2), NONE);
        aim(b, "x=9");
        due("bad(0)", b.bad(0), 3);
        due("bad(1)", b.bad(1), NONE);
        b.graph(2, 2);
        due("bad(0) of a new graph", b.bad(0), NONE);
    }

    /** The same number without an end: a bad run of all states. */
    private static void longBadRun() {
        for (int first = 0; first < 1024; first += 256) {
            HealBench b = bench(4, ALL_EDGES, "00000", "A(j<i|y=3)>x+1");
            b.scheduler(1);
            due("search()", b.search(), 3);
            due("worst()", b.worst(), NONE);
            for (int i = first; i < first + 256; i++) {
                due("bad(" + i + ")", b.bad(i), i);
            }
            due("bad(1024)", b.bad(1024), 0);
            due("bad(1025)", b.bad(1025), NONE);
        }
    }

    private static void goods() {
        HealBench b = bench(3, "", "000", "x=0>1");
        due("kind 1", b.goods(), 8);
        b.aim(0);
        due("kind 0", b.goods(), 3 * 4);
        aim(b, "x=0|x=2");
        due("kind 2", b.goods(), 8);
        aim(b, "i=0|x=l");
        due("all the same", b.goods(), 3);
        b.aim(1);
        rule(b, "x=1>2");
        due("after one more rule", b.goods(), 1);
        b.drop();
        due("after one less", b.goods(), 8);
        b.scheduler(2);
        due("under another scheduler", b.goods(), 8);
        b.graph(5, 4);
        due("of a new graph", b.goods(), 1024);
    }

    public static void main(String[] args) {
        List<Runnable> promises = new ArrayList<>(List.of(PromiseTest::newObject, PromiseTest::graph, PromiseTest::edge,
            PromiseTest::type, PromiseTest::rule, PromiseTest::drop, PromiseTest::aim, PromiseTest::scheduler));
        promises.addAll(List.of(PromiseTest::set, PromiseTest::value, PromiseTest::enabled, PromiseTest::fire,
            PromiseTest::fireTogether, PromiseTest::good, PromiseTest::state, PromiseTest::count));
        promises.addAll(List.of(PromiseTest::search, PromiseTest::searchByChoice, PromiseTest::worst, PromiseTest::longWay,
            PromiseTest::far, PromiseTest::bad, PromiseTest::longBadRun, PromiseTest::goods));
        for (Runnable promise : promises) {
            promise.run();
        }
        end();
    }
}
