import java.util.ArrayList;
import java.util.List;
import java.util.function.Consumer;
import java.util.function.ToIntFunction;

/**
 * What a refused call, or one that only asks, leaves as it was: of two benches made by the same calls one gets it, and
 * then both are asked everything, at last also by calls that change them.
 */
public final class RefusedTest extends Answers {
    /** A bench in the midst of its use; its text is typed last, so that there is one without it, too. */
    private record Situation(String name, int n, int k, String text, Consumer<HealBench> calls) {
        HealBench withoutText() {
            HealBench b = new HealBench();
            calls.accept(b);
            due(name + ": nodes", b.count(2), n);
            due(name + ": K", b.count(5), k);
            due(name + ": nothing typed", b.count(6), 0);
            return b;
        }

        HealBench make() {
            HealBench b = withoutText();
            say(b, text);
            due(name + ": typed", b.count(6), text.length());
            return b;
        }
    }

    private static final String FULL_TEXT = "x=0|".repeat(11) + "x=k%";

    private static final Situation NEW = new Situation("new", 2, 2, "", b -> { });
    private static final Situation HEALING = new Situation("healing", 3, 3, "x", b -> {
        b.graph(3, 3);
        edges(b, "01");
        values(b, "001");
        rule(b, "x=0>1");
        rule(b, "x<2&Ey<x>2");
        rule(b, "x<2>x+1");
        b.scheduler(2);
        due("healing: a step", b.fire(3) >= 0, true);
        due("healing: another", b.fire(4) >= 0, true);
    });
    private static final Situation LEAVING = new Situation("leaving good", 4, 2, FULL_TEXT, b -> {
        b.graph(4, 2);
        edges(b, "010203");
        b.scheduler(1);
        for (int i = 0; i < 6; i++) {
            rule(b, "i=" + i + "&x=0>1");
        }
        values(b, "1010");
        aim(b, "x=0|l=0");
        due("leaving good: a step", b.fire(10) >= 0, true);
    });
    private static final Situation STILL = new Situation("standing still", 2, 4, "!x", b -> {
        b.graph(2, 4);
        edges(b, "01");
        rule(b, "Ay#x&i=0>m");
        values(b, "30");
        aim(b, "x=1");
    });
    private static final Situation ENDLESS = new Situation("going on", 5, 2, "i=i&x", b -> {
        b.graph(5, 2);
        edges(b, "0112233440");
        rule(b, "x=l&i=0>1-x");
        rule(b, "x#l&0<i>l");
        b.aim(0);
        values(b, "01011");
        b.fire(2);
        b.fire(4);
    });
    private static final List<Situation> ALL = List.of(NEW, HEALING, LEAVING, STILL, ENDLESS);

    /** All answers that a bench can give, those last that change it. */
    private static String askAll(HealBench b) {
        StringBuilder s = new StringBuilder();
        askCounts(b, s);
        askNodes(b, s);
        askSearch(b, s);
        askScheduler(b, s);
        askRules(b, s);
        askEdges(b, s);
        askText(b, s);
        return s.toString();
    }

    private static void tell(StringBuilder s, String what, int answer) {
        s.append(what).append(' ').append(answer).append(", ");
    }

    private static void askCounts(HealBench b, StringBuilder s) {
        for (int what = 0; what <= 6; what++) {
            tell(s, "count", b.count(what));
        }
    }

    private static void askNodes(HealBench b, StringBuilder s) {
        tell(s, "state", b.state());
        tell(s, "good", b.good() ? 1 : 0);
        for (int a = 0; a < b.count(2); a++) {
            tell(s, "value", b.value(a));
            tell(s, "enabled", b.enabled(a));
        }
    }

    private static void askSearch(HealBench b, StringBuilder s) {
        tell(s, "search", b.search());
        tell(s, "worst", b.worst());
        tell(s, "goods", b.goods());
        for (int state = 0; state < 32; state++) {
            tell(s, "far", b.far(state));
        }
        for (int i = 0; i < 8; i++) {
            tell(s, "bad", b.bad(i));
        }
    }

    private static void askScheduler(HealBench b, StringBuilder s) {
        tell(s, "scheduler", b.scheduler(2));
        for (int choice = 1; choice < 32; choice *= 2) {
            tell(s, "fire", b.fire(choice));
        }
        tell(s, "steps", b.count(0));
        tell(s, "moves", b.count(1));
    }

    private static void askRules(HealBench b, StringBuilder s) {
        for (int i = 0; i < 7; i++) {
            tell(s, "drop", b.drop());
            tell(s, "goods", b.goods());
            askNodes(b, s);
        }
    }

    private static void askEdges(HealBench b, StringBuilder s) {
        for (int a = 0; a < b.count(2); a++) {
            for (int c = 0; c < a; c++) {
                tell(s, "edge", b.edge(a, c));
            }
        }
    }

    private static void askText(HealBench b, StringBuilder s) {
        tell(s, "type", b.type('='));
        tell(s, "type", b.type('0'));
        tell(s, "aim", b.aim(2));
        tell(s, "goods", b.goods());
    }

    private static void dueSame(String what, HealBench got, HealBench want) {
        due(what + ": what is left", askAll(got), askAll(want));
    }

    private static void refused(Situation in, String call, int answer, ToIntFunction<HealBench> calls) {
        HealBench b = in.make();
        due(in.name + ": " + call, calls.applyAsInt(b), answer);
        dueSame(in.name + ": " + call, b, in.make());
        HealBench searched = in.make();
        searched.search();
        due(in.name + ", searched: " + call, calls.applyAsInt(searched), answer);
        dueSame(in.name + ", searched: " + call, searched, in.make());
    }

    // "NONE, refused, when n is not 2 .. 5, or k not 2 .. 4."
    private static void graph(Situation in) {
        int[][] wrong = {{1, 2}, {6, 2}, {2, 1}, {2, 5}, {0, 2}, {2, 0}, {1, 1}, {6, 5}, {-2, 2}, {2, -2}, {in.n, 1},
            {in.n, 5}, {1, in.k}, {6, in.k}, {Integer.MIN_VALUE, 3}, {Integer.MAX_VALUE, 3}, {3, Integer.MIN_VALUE},
            {3, Integer.MAX_VALUE}, {-1, -1}};
        for (int[] w : wrong) {
            refused(in, "graph(" + w[0] + ", " + w[1] + ")", NONE, b -> b.graph(w[0], w[1]));
        }
    }

    // "NONE, refused, when there is no such node, both are the same, or it is there."
    private static void edge(Situation in) {
        int[] wrong = {-1, in.n, in.n + 1, 31, 32, 33, Integer.MIN_VALUE, Integer.MAX_VALUE};
        for (int w : wrong) {
            refused(in, "edge(0, " + w + ")", NONE, b -> b.edge(0, w));
            refused(in, "edge(" + w + ", 1)", NONE, b -> b.edge(w, 1));
            refused(in, "edge(" + w + ", " + w + ")", NONE, b -> b.edge(w, w));
        }
        for (int a = 0; a < in.n; a++) {
            int same = a;
            refused(in, "edge(" + a + ", " + a + ")", NONE, b -> b.edge(same, same));
        }
        if (in != NEW) {
            refused(in, "edge(0, 1) again", NONE, b -> b.edge(0, 1));
            refused(in, "edge(1, 0) again", NONE, b -> b.edge(1, 0));
        }
    }

    // "NONE, refused, when c is not 32 .. 126; FULL when there are 48."
    private static void type(Situation in) {
        int[] wrong = {31, 127, 0, 10, -1, 128, 255, 'x' + 256, 'x' + 65536, 'x' - 65536, Integer.MIN_VALUE,
            Integer.MAX_VALUE};
        for (int w : wrong) {
            refused(in, "type(" + w + ")", NONE, b -> b.type(w));
        }
        if (in.text.length() == 48) {
            refused(in, "type(120)", FULL, b -> b.type('x'));
            refused(in, "type(32)", FULL, b -> b.type(' '));
            refused(in, "type(126)", FULL, b -> b.type('~'));
        }
    }

    // "FULL when there are 6; -10 less the fault's place when it has one (nothing else changes). Nothing is typed any
    // more in any case."
    private static void rule(Situation in) {
        HealBench b = in.make();
        due(in.name + ": rule()", b.rule(), in == LEAVING ? FULL : -10 - in.text.length());
        dueSame(in.name + ": rule()", b, in.withoutText());
        b = in.withoutText();
        due(in.name + ": rule() of nothing", b.rule(), in == LEAVING ? FULL : -10);
        dueSame(in.name + ": rule() of nothing", b, in.withoutText());
        b = in.withoutText();
        due(in.name + ": rule() with a fault behind", rule(b, "0=0>0+"), in == LEAVING ? FULL : -16);
        dueSame(in.name + ": rule() with a fault behind", b, in.withoutText());
        if (in == LEAVING) {
            due(in.name + ": a right one", rule(b = in.withoutText(), "0=0>0"), FULL);
            dueSame(in.name + ": a right one", b, in.withoutText());
        }
    }

    // "NONE when there is none."
    private static void drop() {
        refused(NEW, "drop()", NONE, b -> b.drop());
    }

    // "for 2 by the text that is typed (a guard alone), which is gone then: 0, or -10 less the fault's place (nothing
    // else changes). NONE, refused, for another kind."
    private static void aim(Situation in) {
        int[] wrong = {-1, 3, 4, -2, Integer.MIN_VALUE, Integer.MAX_VALUE};
        for (int w : wrong) {
            refused(in, "aim(" + w + ")", NONE, b -> b.aim(w));
        }
        if (in != LEAVING) {
            HealBench b = in.make();
            due(in.name + ": aim(2)", b.aim(2), -10 - in.text.length());
            dueSame(in.name + ": aim(2)", b, in.withoutText());
        }
        HealBench b = in.withoutText();
        due(in.name + ": aim(2) of nothing", b.aim(2), -10);
        dueSame(in.name + ": aim(2) of nothing", b, in.withoutText());
        b = in.withoutText();
        due(in.name + ": aim(2) of a rule", aim(b, "x=0>1"), -13);
        dueSame(in.name + ": aim(2) of a rule", b, in.withoutText());
    }

    // "NONE, refused, when it is not 0 .. 2."
    private static void scheduler(Situation in) {
        int[] wrong = {-1, 3, 4, -2, Integer.MIN_VALUE, Integer.MAX_VALUE};
        for (int w : wrong) {
            refused(in, "scheduler(" + w + ")", NONE, b -> b.scheduler(w));
        }
    }

    // "NONE, refused, when there is no such node or value."
    private static void set(Situation in) {
        int[] nodes = {-1, in.n, in.n + 1, Integer.MIN_VALUE, Integer.MAX_VALUE};
        for (int w : nodes) {
            refused(in, "set(" + w + ", 0)", NONE, b -> b.set(w, 0));
            refused(in, "set(" + w + ", 1)", NONE, b -> b.set(w, 1));
            refused(in, "set(" + w + ", " + in.k + ")", NONE, b -> b.set(w, in.k));
        }
        int[] values = {-1, in.k, in.k + 1, Integer.MIN_VALUE, Integer.MAX_VALUE};
        for (int w : values) {
            for (int a = 0; a < in.n; a++) {
                int node = a;
                refused(in, "set(" + a + ", " + w + ")", NONE, b -> b.set(node, w));
            }
        }
    }

    // "NONE, refused: it is no choice of enabled nodes that the scheduler lets be made."
    private static void fire(Situation in) {
        HealBench asked = in.make();
        int able = 0;
        for (int a = 0; a < in.n; a++) {
            able |= asked.enabled(a) > 0 ? 1 << a : 0;
        }
        int kind = asked.scheduler(0);
        int[] never = {0, -1, -2, Integer.MIN_VALUE, Integer.MAX_VALUE, 1 << in.n, 1 << in.n | 1, 1 << 31 | 1, 256, 257};
        for (int w : never) {
            refused(in, "fire(" + w + ")", NONE, b -> b.fire(w));
        }
        for (int choice = 1; choice < 1 << in.n; choice++) {
            boolean one = Integer.bitCount(choice) == 1;
            if ((choice & ~able) != 0 || kind == 0 && !one || kind == 1 && choice != able) {
                int w = choice;
                refused(in, "fire(" + w + ")", NONE, b -> b.fire(w));
            }
        }
    }

    // "NONE when there is no such node", "NONE for another what", "or there is no such state", "when it has none such"
    private static void askForNothing(Situation in) {
        int states = (int) Math.pow(in.k, in.n);
        for (int w : new int[] {-1, in.n, Integer.MIN_VALUE, Integer.MAX_VALUE}) {
            refused(in, "value(" + w + ")", NONE, b -> b.value(w));
            refused(in, "enabled(" + w + ")", NONE, b -> b.enabled(w));
        }
        for (int w : new int[] {-1, 7, Integer.MIN_VALUE, Integer.MAX_VALUE}) {
            refused(in, "count(" + w + ")", NONE, b -> b.count(w));
        }
        for (int w : new int[] {-1, states, 1024, Integer.MIN_VALUE, Integer.MAX_VALUE}) {
            refused(in, "far(" + w + ")", NONE, b -> b.far(w));
        }
        for (int w : new int[] {-1, states + 1, 1024, 1025, 1026, Integer.MIN_VALUE, Integer.MAX_VALUE}) {
            refused(in, "bad(" + w + ")", NONE, b -> b.bad(w));
        }
    }

    private static void askEverything(HealBench b) {
        StringBuilder s = new StringBuilder();
        askCounts(b, s);
        askNodes(b, s);
        askSearch(b, s);
    }

    /** Who asks changes nothing, now or for what is asked after the next change. */
    private static void asking(Situation in) {
        List<Consumer<HealBench>> changes = new ArrayList<>(List.of(b -> { }, b -> b.graph(3, 2), b -> b.graph(2, 4),
            b -> b.edge(1, 0), b -> b.edge(0, in.n - 1), b -> b.type('x'), b -> b.rule(), b -> b.drop(), b -> b.aim(0)));
        changes.addAll(List.of(b -> b.aim(1), b -> b.aim(2), b -> b.scheduler(0), b -> b.scheduler(1),
            b -> b.scheduler(2), b -> b.set(0, 1), b -> b.set(in.n - 1, 0), b -> b.fire(1), b -> b.fire(2)));
        changes.add(b -> {
            b.aim(2);
            rule(b, "x=l>x+1");
        });
        changes.add(b -> {
            b.rule();
            aim(b, "x=l");
        });
        for (int i = 0; i < changes.size(); i++) {
            HealBench asked = in.make();
            askEverything(asked);
            changes.get(i).accept(asked);
            HealBench other = in.make();
            changes.get(i).accept(other);
            dueSame(in.name + ": asked before change " + i, asked, other);
        }
    }

    private static void verdicts() {
        int[] verdicts = {0, 0, 1, 2, 3};
        for (int i = 0; i < verdicts.length; i++) {
            due(ALL.get(i).name + ": search()", ALL.get(i).make().search(), verdicts[i]);
        }
    }

    public static void main(String[] args) {
        verdicts();
        drop();
        for (Situation in : ALL) {
            graph(in);
            edge(in);
            type(in);
            rule(in);
            aim(in);
            scheduler(in);
            set(in);
            fire(in);
            askForNothing(in);
            asking(in);
        }
        end();
    }
}
