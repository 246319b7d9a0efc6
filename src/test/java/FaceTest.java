import java.lang.reflect.Constructor;
import java.lang.reflect.Field;
import java.lang.reflect.Method;
import java.lang.reflect.Modifier;
import java.util.Arrays;
import java.util.List;
import java.util.Set;
import java.util.TreeSet;

/** The public face: all that the document names there, and nothing else. */
public final class FaceTest extends Answers {
    private static final List<String> FACE = List.of(
        "int graph(int, int)", "int edge(int, int)", "int type(int)", "int rule()", "int drop()", "int aim(int)",
        "int scheduler(int)", "int set(int, int)", "int value(int)", "int enabled(int)", "int fire(int)", "boolean good()",
        "int state()", "int count(int)", "int search()", "int worst()", "int far(int)", "int bad(int)", "int goods()");

    private static String told(Method m) {
        List<String> types = Arrays.stream(m.getParameterTypes()).map(Class::getSimpleName).toList();
        return m.getReturnType().getSimpleName() + " " + m.getName() + "(" + String.join(", ", types) + ")";
    }

    private static void methods(Class<?> c) {
        Set<String> methods = new TreeSet<>();
        for (Method m : c.getDeclaredMethods()) {
            if (!Modifier.isPrivate(m.getModifiers())) {
                methods.add(told(m));
                due(told(m), Modifier.toString(m.getModifiers()), "public");
            }
        }
        due("the methods", methods.toString(), new TreeSet<>(FACE).toString());
    }

    private static void constructors(Class<?> c) {
        Constructor<?>[] constructors = c.getDeclaredConstructors();
        due("how many constructors", constructors.length, 1);
        due("the constructor's parameters", constructors[0].getParameterCount(), 0);
        due("the constructor", Modifier.toString(constructors[0].getModifiers()), "public");
    }

    private static void constants(Class<?> c) {
        Set<String> constants = new TreeSet<>();
        for (Field f : c.getDeclaredFields()) {
            if (!Modifier.isPrivate(f.getModifiers())) {
                constants.add(Modifier.toString(f.getModifiers()) + " " + f.getType() + " " + f.getName());
            }
        }
        due("the constants", constants.toString(), "[public static final int FULL, public static final int NONE]");
        due("NONE", HealBench.NONE, -1);
        due("FULL", HealBench.FULL, -2);
    }

    public static void main(String[] args) {
        due("the class", Modifier.toString(HealBench.class.getModifiers()), "public final");
        methods(HealBench.class);
        constructors(HealBench.class);
        constants(HealBench.class);
        end();
    }
}
