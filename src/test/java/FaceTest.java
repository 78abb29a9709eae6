import java.lang.reflect.Constructor;
import java.lang.reflect.Field;
import java.lang.reflect.Method;
import java.lang.reflect.Modifier;
import java.util.Map;
import java.util.Set;
import java.util.TreeMap;
import java.util.TreeSet;

/** The class shows the document's public face, and no member beside it that is not private. */
public final class FaceTest {
    private static final Map<String, Integer> CONSTANTS = Map.ofEntries(
            Map.entry("AND", 0), Map.entry("OR", 1), Map.entry("XOR", 2), Map.entry("PLUS", 3),
            Map.entry("MINUS", 4), Map.entry("LESS", 5), Map.entry("FIRST", 6), Map.entry("NOT", 7),
            Map.entry("CHOOSE", 8), Map.entry("BAD", -1), Map.entry("CIRCLE", -2), Map.entry("NOT_INPUT", -3));

    private static final Set<String> METHODS = Set.of(
            "public int EventCircuit.wire(int,int,int,int)",
            "public int EventCircuit.register(int,int,int,int)",
            "public int EventCircuit.free(int)",
            "public int EventCircuit.set(int,int)",
            "public int EventCircuit.pulse(int,int,int)",
            "public int EventCircuit.value(int)",
            "public int EventCircuit.kind(int)",
            "public int EventCircuit.hanging(int)",
            "public int EventCircuit.depth()");

    private static int wrong = 0;

    private static void due(String what, Object got, Object want) {
        if (!got.equals(want)) {
            wrong++;
            System.out.println(what + ": there is " + got + ", due is " + want);
        }
    }

    public static void main(String[] args) throws ReflectiveOperationException {
        due("class", Modifier.toString(EventCircuit.class.getModifiers()), "public final");
        due("constants", shownConstants(), new TreeMap<>(CONSTANTS));
        due("methods", shownMethods(), new TreeSet<>(METHODS));
        due("constructors", shownConstructors(), new TreeSet<>(Set.of("public EventCircuit()")));
        due("nested classes", EventCircuit.class.getDeclaredClasses().length, 0);
        System.out.println(wrong == 0 ? "the face is as due" : wrong + " parts of the face are not as due");
        if (wrong != 0) {
            System.exit(1);
        }
    }

    private static Map<String, Integer> shownConstants() throws ReflectiveOperationException {
        Map<String, Integer> shown = new TreeMap<>();
        for (Field field : EventCircuit.class.getDeclaredFields()) {
            if (!Modifier.isPrivate(field.getModifiers())) {
                due(field.getName(), Modifier.toString(field.getModifiers()), "public static final");
                shown.put(field.getName(), field.getInt(null));
            }
        }
        return shown;
    }

    private static Set<String> shownMethods() {
        Set<String> shown = new TreeSet<>();
        for (Method method : EventCircuit.class.getDeclaredMethods()) {
            if (!Modifier.isPrivate(method.getModifiers())) {
                shown.add(method.toString());
            }
        }
        return shown;
    }

    private static Set<String> shownConstructors() {
        Set<String> shown = new TreeSet<>();
        for (Constructor<?> constructor : EventCircuit.class.getDeclaredConstructors()) {
            shown.add(constructor.toString());
        }
        return shown;
    }
}
