import java.lang.reflect.Constructor;
import java.lang.reflect.Field;
import java.lang.reflect.Method;
import java.lang.reflect.Modifier;
import java.util.Set;
import java.util.TreeSet;

/** The public face: the members of the document, and nothing else that can be seen from outside. */
public final class FaceTest {
    private static final String INDEX = " IndexOutOfBoundsException";
    private static final String ARGUMENT = " IllegalArgumentException";
    private static final String STATE = " IllegalStateException";
    private static final String ARITHMETIC = " ArithmeticException";
    private static final String ELEMENT = " NoSuchElementException";

    public static void main(String[] args) {
        Set<String> due = new TreeSet<>(Set.of(
            "int put(int,int,int)" + INDEX + ARGUMENT,
            "int coefficient(int,int)" + INDEX,
            "int degree(int)" + INDEX,
            "int add(int,int,int,boolean)" + INDEX + STATE,
            "int multiply(int,int,int)" + INDEX + STATE,
            "int derive(int,int)" + INDEX + STATE,
            "int shift(int,int,int)" + INDEX + ARGUMENT + STATE,
            "int divide(int,int,int)" + INDEX + ARITHMETIC + STATE,
            "int common(int,int,int)" + INDEX + STATE,
            "long value(int,int)" + INDEX + ARGUMENT,
            "int content(int)" + INDEX,
            "int factor(int)" + INDEX + ARITHMETIC,
            "int unit()",
            "int multiplicity(int)" + ELEMENT,
            "int factorAt(int,int)" + ELEMENT,
            "boolean take(int,int)" + INDEX + ELEMENT,
            "boolean prime(int)" + INDEX,
            "int modular(int,int)" + INDEX + ARGUMENT,
            "int roots(int,int)" + INDEX + ARGUMENT));
        Set<String> seen = new TreeSet<>();
        Set<String> hidden = new TreeSet<>();
        for (Method method : IntegerSplitter.class.getDeclaredMethods()) {
            if (Modifier.isPrivate(method.getModifiers())) {
                hidden.add(method.getName());
            } else {
                seen.add(signature(method));
            }
        }
        Expect.answer("methods", due, () -> seen);
        for (Method method : IntegerSplitter.class.getMethods()) {
            Expect.answer("a private " + method.getName(), false, () -> hidden.contains(method.getName()));
        }
        for (Field field : IntegerSplitter.class.getDeclaredFields()) {
            Expect.answer("private: " + field, true, () -> Modifier.isPrivate(field.getModifiers()));
        }
        Constructor<?>[] constructors = IntegerSplitter.class.getDeclaredConstructors();
        Expect.answer("constructors", 1, () -> constructors.length);
        Expect.answer("constructor", "public IntegerSplitter()", () -> constructors[0]);
        Expect.answer("class", "public final", () -> Modifier.toString(IntegerSplitter.class.getModifiers()));
        Expect.answer("superclass", Object.class, () -> IntegerSplitter.class.getSuperclass());
        Expect.end();
    }

    private static String signature(Method method) {
        StringBuilder text = new StringBuilder();
        text.append(method.getReturnType()).append(' ').append(method.getName()).append('(');
        String gap = "";
        for (Class<?> type : method.getParameterTypes()) {
            text.append(gap).append(type);
            gap = ",";
        }
        text.append(')');
        for (Class<?> type : method.getExceptionTypes()) {
            text.append(' ').append(type.getSimpleName());
        }
        return text.toString();
    }
}
