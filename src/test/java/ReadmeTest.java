import java.io.IOException;
import java.lang.reflect.InvocationTargetException;
import java.lang.reflect.Method;
import java.lang.reflect.Modifier;
import java.nio.file.Files;
import java.nio.file.Path;
import java.util.List;
import java.util.regex.Matcher;
import java.util.regex.Pattern;

/** The README's example holds, call by call, and the README names every call of the face. */
public final class ReadmeTest {
    private static final Pattern CALL =
            Pattern.compile("net\\.(\\w+)\\(([^)]*)\\);(?: *// (-?\\d+|true|false)(?::.*)?)?.*");

    private static final Check CHECK = new Check("ReadmeTest");

    public static void main(String[] args) throws IOException, ReflectiveOperationException {
        List<String> lines = Files.readAllLines(Path.of("README.md"));
        runExample(lines);
        for (Method method : TreeOfArcs.class.getDeclaredMethods()) {
            if (Modifier.isPublic(method.getModifiers())) {
                boolean isNamed = String.join("\n", lines).contains("`" + method.getName() + "(");
                CHECK.same("the README names " + method.getName(), isNamed, true);
            }
        }
        CHECK.end();
    }

    private static void runExample(List<String> lines) throws ReflectiveOperationException {
        TreeOfArcs net = new TreeOfArcs();
        int calls = 0;
        for (String line : lines) {
            Matcher call = CALL.matcher(line);
            if (call.matches()) {
                calls++;
                String got = answer(net, call.group(1), call.group(2));
                if (!call.group(1).equals("nodes")) {
                    CHECK.sameText(line, got, String.valueOf(call.group(3)));
                }
            }
        }
        CHECK.same("the README has an example", calls > 0, true);
    }

    private static String answer(TreeOfArcs net, String name, String written)
            throws ReflectiveOperationException {
        String[] words = written.isEmpty() ? new String[0] : written.split(", ");
        Method method = methodOf(name, words.length);
        Object[] arguments = new Object[words.length];
        for (int i = 0; i < words.length; i++) {
            arguments[i] = asValue(words[i], method.getParameterTypes()[i]);
        }
        try {
            return String.valueOf(method.invoke(net, arguments));
        } catch (InvocationTargetException e) {
            return "throws." + e.getCause().getClass().getSimpleName();
        }
    }

    private static Method methodOf(String name, int parameters) throws NoSuchMethodException {
        for (Method method : TreeOfArcs.class.getDeclaredMethods()) {
            if (method.getName().equals(name) && method.getParameterCount() == parameters) {
                return method;
            }
        }
        throw new NoSuchMethodException(name);
    }

    private static Object asValue(String word, Class<?> type) {
        if (type == boolean.class) {
            return Boolean.valueOf(word);
        }
        return type == long.class ? (Object) Long.valueOf(word) : (Object) Integer.valueOf(word);
    }
}
