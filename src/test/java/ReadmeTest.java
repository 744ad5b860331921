import java.io.IOException;
import java.lang.reflect.InvocationTargetException;
import java.lang.reflect.Method;
import java.lang.reflect.Modifier;
import java.nio.file.Files;
import java.nio.file.Path;
import java.util.Set;
import java.util.TreeSet;
import java.util.regex.Matcher;
import java.util.regex.Pattern;

/**
 * The example in README.md: each of its calls, made in their order on one object, answers or throws what stands
 * beside it, and every method of the class is shown.
 */
public final class ReadmeTest {
    private static final Pattern CALL =
        Pattern.compile("x\\.(\\w+)\\(([^)]*)\\); +// (answers|throws) (-?\\w+).*");

    public static void main(String[] args) throws IOException {
        IntegerSplitter x = new IntegerSplitter();
        Set<String> shown = new TreeSet<>();
        for (String line : Files.readAllLines(Path.of("README.md"))) {
            Matcher call = CALL.matcher(line);
            if (call.matches()) {
                shown.add(call.group(1));
                String due = call.group(3).equals("throws") ? "throws." + call.group(4) : call.group(4);
                Expect.answer(line, due, () -> made(x, call.group(1), call.group(2)));
            } else if (line.startsWith("x.")) {
                Expect.answer(line, "a call with its answer", () -> "a call without one");
            }
        }
        Set<String> methods = new TreeSet<>();
        for (Method method : IntegerSplitter.class.getDeclaredMethods()) {
            if (Modifier.isPublic(method.getModifiers())) {
                methods.add(method.getName());
            }
        }
        Expect.answer("the methods that README.md shows", methods, () -> shown);
        Expect.end();
    }

    private static Object made(IntegerSplitter x, String name, String written) {
        String[] words = written.isEmpty() ? new String[0] : written.split(", ");
        for (Method method : IntegerSplitter.class.getMethods()) {
            if (method.getName().equals(name) && method.getParameterCount() == words.length) {
                return answerOf(method, x, words);
            }
        }
        return "no such method";
    }

    private static Object answerOf(Method method, IntegerSplitter x, String[] words) {
        Object[] values = new Object[words.length];
        for (int i = 0; i < words.length; i++) {
            boolean number = method.getParameterTypes()[i] == int.class;
            values[i] = number ? (Object) Integer.valueOf(words[i]) : Boolean.valueOf(words[i]);
        }
        try {
            return method.invoke(x, values);
        } catch (InvocationTargetException e) {
            return "throws." + e.getCause().getClass().getSimpleName();
        } catch (IllegalAccessException e) {
            return "no access";
        }
    }
}
