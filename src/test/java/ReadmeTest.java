import java.lang.reflect.Method;
import java.lang.reflect.Modifier;
import java.nio.file.Files;
import java.nio.file.Path;
import java.util.ArrayList;
import java.util.List;
import java.util.regex.Matcher;
import java.util.regex.Pattern;

/** README.md's examples answer what it says, and it names every call of the class. */
public final class ReadmeTest {
    private static final Pattern NEW = Pattern.compile("NestedBodies x = new NestedBodies\\(\\);.*");
    private static final Pattern CALL = Pattern.compile("x\\.(\\w+)\\((.*)\\); +// (-?\\d+)(:.*)?");

    private static int calls = 0;
    private static int wrong = 0;

    public static void main(String[] args) throws Exception {
        List<String> lines = Files.readAllLines(Path.of("README.md"));
        NestedBodies x = null;
        List<String> called = new ArrayList<>();
        for (String line : lines) {
            Matcher call = CALL.matcher(line);
            if (NEW.matcher(line).matches()) {
                x = new NestedBodies();
            } else if (call.matches() && x != null) {
                called.add(call.group(1));
                hold(line, answer(x, call.group(1), call.group(2)), Long.parseLong(call.group(3)));
            } else if (line.startsWith("x.")) {
                tell("can't be read: " + line);
            }
        }
        for (Method method : NestedBodies.class.getDeclaredMethods()) {
            if (Modifier.isPublic(method.getModifiers()) && !called.contains(method.getName())) {
                tell("has no example of " + method.getName());
            }
        }
        System.out.println(calls + " examples, " + wrong + " wrong");
        System.exit(wrong == 0 ? 0 : 1);
    }

    private static void hold(String line, long got, long said) {
        calls++;
        if (got != said) {
            tell(line + " answered " + got);
        }
    }

    private static void tell(String what) {
        wrong++;
        System.out.println("README.md: " + what);
    }

    private static long answer(NestedBodies x, String name, String told) throws Exception {
        String[] words = told.isEmpty() ? new String[0] : told.split(", ");
        for (Method method : NestedBodies.class.getDeclaredMethods()) {
            if (Modifier.isPublic(method.getModifiers()) && method.getName().equals(name)
                    && method.getParameterCount() == words.length) {
                return ((Number) method.invoke(x, arguments(method, words))).longValue();
            }
        }
        tell("there is no call " + name + " of " + words.length);
        return 0;
    }

    private static Object[] arguments(Method method, String[] words) {
        Object[] arguments = new Object[words.length];
        for (int i = 0; i < words.length; i++) {
            long value = words[i].startsWith("'") ? words[i].charAt(1) : Long.parseLong(words[i]);
            if (method.getParameterTypes()[i] == long.class) {
                arguments[i] = value;
            } else {
                arguments[i] = (int) value;
            }
        }
        return arguments;
    }
}
