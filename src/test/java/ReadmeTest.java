import java.io.IOException;
import java.lang.reflect.Method;
import java.lang.reflect.Modifier;
import java.nio.file.Files;
import java.nio.file.Path;
import java.util.Set;
import java.util.TreeSet;
import java.util.regex.Matcher;
import java.util.regex.Pattern;

/** Each call of README.md's example answers what its comment says, and the example uses every method. */
public final class ReadmeTest {
    private static final String START = "graph.";
    private static final Pattern CALL = Pattern.compile("graph\\.(\\w+)\\(([^)]*)\\);\\s*// (true|false|-?\\d+)(:.*)?");

    private static final Set<String> called = new TreeSet<>();
    private static int wrong = 0;

    private static void fault(String text) {
        wrong++;
        System.out.println(text);
    }

    private static Method methodOf(String name) {
        for (Method method : DmDecomposer.class.getMethods()) {
            if (method.getName().equals(name) && method.getDeclaringClass() == DmDecomposer.class) {
                return method;
            }
        }
        return null;
    }

    private static Object valueOf(String text, Class<?> type) {
        if (type == boolean.class) {
            return Boolean.valueOf(text);
        }
        return Integer.valueOf(text);
    }

    private static Object[] argumentsOf(Method method, String text) {
        Class<?>[] types = method.getParameterTypes();
        String[] parts = text.isEmpty() ? new String[0] : text.split(", ");
        Object[] arguments = new Object[types.length];
        for (int n = 0; n < types.length; n++) {
            arguments[n] = valueOf(parts[n], types[n]);
        }
        return arguments;
    }

    private static void checkLine(DmDecomposer graph, String line) throws ReflectiveOperationException {
        Matcher call = CALL.matcher(line);
        Method method = call.matches() ? methodOf(call.group(1)) : null;
        if (method == null) {
            fault("not a call of the class with its answer: " + line);
            return;
        }
        called.add(method.getName());
        String got = method.invoke(graph, argumentsOf(method, call.group(2))).toString();
        if (!got.equals(call.group(3))) {
            fault(line + " -- answered " + got);
        }
    }

    private static void checkAllMethodsAreCalled() {
        for (Method method : DmDecomposer.class.getDeclaredMethods()) {
            boolean open = Modifier.isPublic(method.getModifiers());
            if (open && !called.contains(method.getName())) {
                fault("the example does not use " + method.getName());
            }
        }
    }

    public static void main(String[] args) throws IOException, ReflectiveOperationException {
        DmDecomposer graph = new DmDecomposer();
        for (String line : Files.readAllLines(Path.of("README.md"))) {
            if (line.startsWith(START)) {
                checkLine(graph, line);
            }
        }
        checkAllMethodsAreCalled();
        System.out.println(wrong == 0 ? "the example is as due" : wrong + " faults of the example");
        if (wrong != 0) {
            System.exit(1);
        }
    }
}
