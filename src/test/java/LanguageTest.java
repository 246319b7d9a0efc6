import java.io.DataInputStream;
import java.io.IOException;
import java.lang.reflect.Field;
import java.lang.reflect.Method;
import java.lang.reflect.Modifier;
import java.util.ArrayList;
import java.util.List;
import java.util.Set;
import java.util.TreeSet;

/** The rules of the language that can be seen in what javac makes of the class. */
public final class LanguageTest extends Answers {
    /** What rule 4 lets be called, as far as a class that keeps no lists and joins no texts can need it. */
    private static final Set<String> LIBRARY = Set.of(
        "java/lang/Object.<init>", "java/lang/String.length", "java/lang/String.charAt", "java/lang/String.indexOf",
        "java/lang/Integer.bitCount", "java/lang/Math.floorMod", "java/lang/Math.max", "java/lang/Math.min",
        "java/lang/System.arraycopy", "java/util/Arrays.fill");

    /** The constants of a class file: all that it names and calls stands there. */
    private static final class Constants {
        private static final int TEXT = 1;
        private static final int LONG = 5;
        private static final int DOUBLE = 6;
        private static final int CLASS = 7;
        private static final int METHOD = 10;
        private static final int INTERFACE_METHOD = 11;
        private static final int METHOD_HANDLE = 15;
        private static final int DYNAMIC = 17;
        private static final int INVOKE_DYNAMIC = 18;
        /** Those that name just one other constant: a class, a string, a method's type, a module, a package. */
        private static final Set<Integer> SHORT = Set.of(CLASS, 8, 16, 19, 20);

        private final int[] tags;
        private final int[] first;
        private final int[] second;
        private final String[] texts;

        Constants(Class<?> c) throws IOException {
            try (DataInputStream in = new DataInputStream(c.getResourceAsStream(c.getName() + ".class"))) {
                in.readLong();
                int size = in.readUnsignedShort();
                tags = new int[size];
                first = new int[size];
                second = new int[size];
                texts = new String[size];
                for (int i = 1; i < size; i++) {
                    tags[i] = in.readUnsignedByte();
                    read(in, i);
                    i += tags[i] == LONG || tags[i] == DOUBLE ? 1 : 0;
                }
            }
        }

        private void read(DataInputStream in, int i) throws IOException {
            if (tags[i] == TEXT) {
                texts[i] = in.readUTF();
            } else if (tags[i] == LONG || tags[i] == DOUBLE) {
                in.readLong();
            } else {
                first[i] = tags[i] == METHOD_HANDLE ? in.readUnsignedByte() : in.readUnsignedShort();
                second[i] = SHORT.contains(tags[i]) ? 0 : in.readUnsignedShort();
            }
        }

        boolean isDynamic() {
            for (int tag : tags) {
                if (tag == DYNAMIC || tag == INVOKE_DYNAMIC) {
                    return true;
                }
            }
            return false;
        }

        List<String> classes() {
            List<String> all = new ArrayList<>();
            for (int i = 1; i < tags.length; i++) {
                if (tags[i] == CLASS) {
                    all.add(texts[first[i]]);
                }
            }
            return all;
        }

        List<String> calls() {
            List<String> all = new ArrayList<>();
            for (int i = 1; i < tags.length; i++) {
                if (tags[i] == METHOD || tags[i] == INTERFACE_METHOD) {
                    all.add(texts[first[first[i]]] + "." + texts[first[second[i]]]);
                }
            }
            return all;
        }
    }

    /** An array's clone is let be called, and is named as a call of the array. */
    private static boolean mayCall(String call) {
        return call.startsWith("HealBench") || LIBRARY.contains(call) || call.startsWith("[") && call.endsWith(".clone");
    }

    private static void constants(Class<?> c) throws IOException {
        Constants constants = new Constants(c);
        due(c + " has lambdas or joins texts by +", constants.isDynamic(), false);
        for (String call : constants.calls()) {
            due(c + " may call " + call, mayCall(call), true);
        }
        for (String name : constants.classes()) {
            due(c + " has to do with " + name, name.endsWith("Exception") || name.endsWith("Error"), false);
        }
    }

    private static void methods(Class<?> c, Set<String> face) {
        for (Method m : c.getDeclaredMethods()) {
            boolean ofFace = c == HealBench.class && Modifier.isPublic(m.getModifiers());
            due(m + " bears a name of the face", !ofFace && face.contains(m.getName()), false);
            due(m + " has at most seven parameters", m.getParameterCount() <= 7, true);
            due(m + " is synchronized", Modifier.isSynchronized(m.getModifiers()), false);
        }
    }

    private static void fields(Class<?> c) {
        int own = 0;
        for (Field f : c.getDeclaredFields()) {
            boolean constant = Modifier.isFinal(f.getModifiers());
            boolean shared = Modifier.isStatic(f.getModifiers());
            own += shared ? 0 : 1;
            due(f + " is final if it is static", !shared || constant, true);
            due(f + " can be seen from outside", c == HealBench.class && !shared && !Modifier.isPrivate(f.getModifiers()), false);
        }
        due(c + " has at most twenty fields", own <= 20, true);
    }

    private static void placed(Class<?> c) {
        due(c + " is static", Modifier.isStatic(c.getModifiers()), true);
        due(c + " is public or protected", (c.getModifiers() & (Modifier.PUBLIC | Modifier.PROTECTED)) != 0, false);
    }

    public static void main(String[] args) throws IOException {
        Set<String> face = new TreeSet<>();
        for (Method m : HealBench.class.getMethods()) {
            face.add(m.getName());
        }
        List<Class<?>> classes = new ArrayList<>(List.of(HealBench.class.getDeclaredClasses()));
        classes.forEach(LanguageTest::placed);
        classes.add(HealBench.class);
        due("at most twelve classes", classes.size() <= 12, true);
        for (Class<?> c : classes) {
            constants(c);
            methods(c, face);
            fields(c);
        }
        end();
    }
}
