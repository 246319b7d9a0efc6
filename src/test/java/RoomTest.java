import java.lang.management.ManagementFactory;
import java.lang.reflect.Array;
import java.lang.reflect.Field;
import java.lang.reflect.Modifier;
import java.util.ArrayDeque;
import java.util.Collections;
import java.util.Deque;
import java.util.IdentityHashMap;
import java.util.List;
import java.util.Set;

/** How much room an object takes, and all that a run of calls makes. */
public final class RoomTest extends Answers {
    private static final int MOST_CALLS = 512;
    private static final long ROOM_OF_RUN = 7_300_000;
    private static final String LONG_RULE = "!(x=0|x=1)&E(x<y|y=3&j<i)|A(y=x)&l<u|i=0>x+1%";

    /** Fields and elements of all that an object holds. */
    private static long room(Object root) throws IllegalAccessException {
        Set<Object> seen = Collections.newSetFromMap(new IdentityHashMap<>());
        Deque<Object> left = new ArrayDeque<>(List.of(root));
        long room = 0;
        while (!left.isEmpty()) {
            Object o = left.pop();
            if (!seen.add(o)) {
                continue;
            }
            if (o.getClass().isArray()) {
                room += Array.getLength(o);
                continue;
            }
            for (Field f : o.getClass().getDeclaredFields()) {
                if (!Modifier.isStatic(f.getModifiers())) {
                    room++;
                    f.setAccessible(true);
                    if (!f.getType().isPrimitive() && f.get(o) != null) {
                        left.push(f.get(o));
                    }
                }
            }
        }
        return room;
    }

    /** The first time a run makes things of the machine's own, too; of bytes there are more than of elements. */
    private static void dueBytes(String what, Runnable run) {
        com.sun.management.ThreadMXBean threads = (com.sun.management.ThreadMXBean) ManagementFactory.getThreadMXBean();
        run.run();
        long before = threads.getCurrentThreadAllocatedBytes();
        run.run();
        long made = threads.getCurrentThreadAllocatedBytes() - before;
        due("the bytes that " + what + " make, " + made + ", are few enough", made <= ROOM_OF_RUN, true);
    }

    private static HealBench largest() {
        return bench(4, "01020304121314232434", "00000");
    }

    private static void longRules() {
        HealBench b = largest();
        int turn = LONG_RULE.length() + 2;
        for (int calls = 16; calls + turn <= MOST_CALLS; calls += turn) {
            due("rule()", rule(b, LONG_RULE), 1);
            b.drop();
        }
    }

    private static void emptyRules() {
        HealBench b = new HealBench();
        for (int calls = 0; calls < MOST_CALLS; calls++) {
            b.rule();
        }
    }

    private static void searches() {
        HealBench b = largest();
        due("rule()", rule(b, "Ex=y&x<3>x+1"), 1);
        for (int calls = 29; calls + 2 <= MOST_CALLS; calls += 2) {
            b.scheduler(calls / 2 % 3);
            b.search();
        }
    }

    private static void steps() {
        HealBench b = largest();
        due("rule()", rule(b, "E!x<y>x+1"), 1);
        for (int calls = 26; calls + 3 <= MOST_CALLS; calls += 3) {
            b.enabled(calls % 5);
            b.fire(1 << calls % 5);
            b.good();
        }
    }

    public static void main(String[] args) throws IllegalAccessException {
        long room = room(new HealBench());
        due("a new object's room, " + room + ", is small enough for one a call", room <= ROOM_OF_RUN / MOST_CALLS, true);
        dueBytes("long rules", RoomTest::longRules);
        dueBytes("empty rules", RoomTest::emptyRules);
        dueBytes("searches", RoomTest::searches);
        dueBytes("steps", RoomTest::steps);
        end();
    }
}
