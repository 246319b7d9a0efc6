import java.lang.reflect.Array;
import java.lang.reflect.Constructor;
import java.lang.reflect.Field;
import java.lang.reflect.Method;
import java.lang.reflect.Modifier;
import java.util.ArrayDeque;
import java.util.Arrays;
import java.util.Collections;
import java.util.Deque;
import java.util.IdentityHashMap;
import java.util.List;
import java.util.Set;
import java.util.TreeSet;

/** The public face, rules of the language that can be seen from outside, and how much room an object takes. */
public final class FaceTest {
    private static final List<String> FACE = List.of(
        "int graph(int, int)", "int edge(int, int)", "int type(int)", "int rule()", "int drop()", "int aim(int)",
        "int scheduler(int)", "int set(int, int)", "int value(int)", "int enabled(int)", "int fire(int)", "boolean good()",
        "int state()", "int count(int)", "int search()", "int worst()", "int far(int)", "int bad(int)", "int goods()");
    /** A run of 512 calls has room for 7.3 million fields and elements, even if each call made an object. */
    private static final long MOST_ROOM = 7_300_000 / 512;

    private static int wrong = 0;

    private static void due(String what, Object got, Object want) {
        if (!got.equals(want)) {
            wrong++;
            System.out.println(what + " is " + got + ", due is " + want);
        }
    }

    private static String told(Method m) {
        List<String> types = Arrays.stream(m.getParameterTypes()).map(Class::getSimpleName).toList();
        return m.getReturnType().getSimpleName() + " " + m.getName() + "(" + String.join(", ", types) + ")";
    }

    private static void face() {
        Class<?> c = HealBench.class;
        due("the class", Modifier.toString(c.getModifiers()), "public final");
        Set<String> methods = new TreeSet<>();
        for (Method m : c.getDeclaredMethods()) {
            if (!Modifier.isPrivate(m.getModifiers())) {
                methods.add(told(m));
                due(told(m), Modifier.toString(m.getModifiers()), "public");
            }
        }
        due("the methods", methods, new TreeSet<>(FACE));
        Constructor<?>[] constructors = c.getDeclaredConstructors();
        due("how many constructors", constructors.length, 1);
        due("the constructor's parameters", constructors[0].getParameterCount(), 0);
        due("the constructor", Modifier.toString(constructors[0].getModifiers()), "public");
        Set<String> constants = new TreeSet<>();
        for (Field f : c.getDeclaredFields()) {
            if (!Modifier.isPrivate(f.getModifiers())) {
                constants.add(Modifier.toString(f.getModifiers()) + " " + f.getType() + " " + f.getName());
            }
        }
        due("the constants", constants, new TreeSet<>(Set.of("public static final int NONE", "public static final int FULL")));
        due("NONE", HealBench.NONE, -1);
        due("FULL", HealBench.FULL, -2);
    }

    private static void inside() {
        Set<String> names = new TreeSet<>();
        FACE.forEach(f -> names.add(f.substring(f.indexOf(' ') + 1, f.indexOf('('))));
        Class<?>[] classes = HealBench.class.getDeclaredClasses();
        due("at most twelve classes", classes.length + 1 <= 12, true);
        for (Class<?> c : classes) {
            due(c + " is static", Modifier.isStatic(c.getModifiers()), true);
            due(c + " is not public", Modifier.isPublic(c.getModifiers()), false);
            for (Method m : c.getDeclaredMethods()) {
                due(c + " has a " + m.getName(), names.contains(m.getName()), false);
                due(m + " has at most seven parameters", m.getParameterCount() <= 7, true);
            }
            for (Field f : c.getDeclaredFields()) {
                boolean constant = Modifier.isFinal(f.getModifiers());
                due(f + " is final if it is static", !Modifier.isStatic(f.getModifiers()) || constant, true);
            }
        }
        for (Method m : HealBench.class.getDeclaredMethods()) {
            due(m + " is private and bears a public name",
                Modifier.isPrivate(m.getModifiers()) && names.contains(m.getName()), false);
        }
    }

    /** Fields and elements of all that an object holds. */
    private static long room(Object root) throws IllegalAccessException {
        Set<Object> seen = Collections.newSetFromMap(new IdentityHashMap<>());
        Deque<Object> left = new ArrayDeque<>(List.of(root));
        long room = 0;
        while (!left.isEmpty()) {
            Object o = left.pop();
            if (!seen.add(o)) {
                continue;
            }
            if (o.getClass().isArray()) {
                room += Array.getLength(o);
                continue;
            }
            for (Field f : o.getClass().getDeclaredFields()) {
                if (!Modifier.isStatic(f.getModifiers())) {
                    room++;
                    f.setAccessible(true);
                    if (!f.getType().isPrimitive() && f.get(o) != null) {
                        left.push(f.get(o));
                    }
                }
            }
        }
        return room;
    }

    public static void main(String[] args) throws IllegalAccessException {
        face();
        inside();
        long room = room(new HealBench());
        due("the room of a new object, " + room + ", is small enough", room <= MOST_ROOM, true);
        System.out.println(wrong == 0 ? "the face is as due" : wrong + " things are not as due");
        if (wrong != 0) {
            System.exit(1);
        }
    }
}
