import java.io.IOException;
import java.lang.reflect.Method;
import java.nio.file.Files;
import java.nio.file.Path;
import java.util.regex.Matcher;
import java.util.regex.Pattern;

/** The calls of README.md's example answer what README.md tells. */
public final class ReadmeTest {
    private static final Pattern CALL = Pattern.compile("x\\.(\\w+)\\((.*?)\\);\\s*// answers (-?\\d+).*");

    private static int wrong = 0;

    public static void main(String[] args) throws IOException, ReflectiveOperationException {
        EventCircuit x = new EventCircuit();
        int calls = 0;
        for (String line : Files.readAllLines(Path.of("README.md"))) {
            if (line.startsWith("x.")) {
                calls++;
                carryOut(x, line);
            }
        }
        if (calls == 0) {
            wrong++;
            System.out.println("README.md has no example");
        }
        System.out.println(wrong == 0 ? "the example is as told" : wrong + " lines of the example are not as told");
        if (wrong != 0) {
            System.exit(1);
        }
    }

    private static void carryOut(EventCircuit x, String line) throws ReflectiveOperationException {
        Matcher parts = CALL.matcher(line);
        if (!parts.matches()) {
            wrong++;
            System.out.println("no call with its answer: " + line);
            return;
        }
        Object got = method(parts.group(1)).invoke(x, numbers(parts.group(2)));
        if (!got.equals(Integer.valueOf(parts.group(3)))) {
            wrong++;
            System.out.println("answered " + got + ": " + line);
        }
    }

    private static Method method(String name) throws NoSuchMethodException {
        for (Method method : EventCircuit.class.getMethods()) {
            if (method.getName().equals(name)) {
                return method;
            }
        }
        throw new NoSuchMethodException(name);
    }

    private static Object[] numbers(String arguments) throws ReflectiveOperationException {
        if (arguments.isEmpty()) {
            return new Object[0];
        }
        String[] texts = arguments.split(",");
        Object[] numbers = new Object[texts.length];
        for (int i = 0; i < texts.length; i++) {
            numbers[i] = sum(texts[i]);
        }
        return numbers;
    }

    private static int sum(String text) throws ReflectiveOperationException {
        int sum = 0;
        for (String product : text.split("\\+")) {
            int value = 1;
            for (String factor : product.split("\\*")) {
                value *= number(factor.trim());
            }
            sum += value;
        }
        return sum;
    }

    private static int number(String text) throws ReflectiveOperationException {
        String constants = "EventCircuit.";
        if (text.startsWith(constants)) {
            return EventCircuit.class.getField(text.substring(constants.length())).getInt(null);
        }
        return Integer.parseInt(text);
    }
}
