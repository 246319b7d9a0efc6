/** What README.md shows under 'Use': the same calls with the answers that are told there. */
public final class UseTest extends Answers {
    private static HealBench ring() {
        HealBench b = new HealBench();
        due("graph(3, 3)", b.graph(3, 3), 27);
        b.edge(0, 1);
        b.edge(1, 2);
        b.edge(2, 0);
        due("rule()", rule(b, "Ex=y>x+1"), 1);
        return b;
    }

    private static void searched(HealBench b) {
        due("search()", b.search(), 0);
        due("worst()", b.worst(), 3);
        due("far(0)", b.far(0), 3);
        due("goods()", b.goods(), 6);
        due("scheduler(1)", b.scheduler(1), 0);
        dueRun("under scheduler 1", b, 3, "0 13 26 0");
    }

    private static void steppedByHand(HealBench b) {
        due("enabled(0)", b.enabled(0), 1);
        due("fire(7)", b.fire(7), 13);
        due("fire(1)", b.fire(1), NONE);
        due("set(0, 2)", b.set(0, 2), 1);
        due("state()", b.state(), 22);
        due("fire(6)", b.fire(6), 26);
        dueCounts("after set()", b, 1, 2);
        due("good()", b.good(), false);
    }

    public static void main(String[] args) {
        HealBench b = ring();
        searched(b);
        steppedByHand(b);
        end();
    }
}
