import java.io.IOException;
import java.lang.reflect.InvocationTargetException;
import java.lang.reflect.Method;
import java.nio.charset.StandardCharsets;
import java.nio.file.Files;
import java.nio.file.Path;
import java.util.Set;
import java.util.TreeSet;
import java.util.regex.Matcher;
import java.util.regex.Pattern;

/** What README.md shows is so: its example is done call by call, and each answer compared. */
public final class ReadmeTest {
    private static final Pattern FENCED = Pattern.compile("```java\n(.*?)```", Pattern.DOTALL);
    private static final Pattern CALL = Pattern.compile("x\\.(\\w+)\\((.*)\\); *(?:// (?:throws )?([\\w-]+))?");
    private static final Pattern FED = Pattern.compile("feed\\(x, \"(.*)\"\\)");

    private static final Check CHECK = new Check("README");
    private static final SaltBells X = new SaltBells();
    private static final Set<String> SHOWN = new TreeSet<>();

    public static void main(String[] args) throws IOException, IllegalAccessException {
        Matcher fenced = FENCED.matcher(Files.readString(Path.of("README.md"), StandardCharsets.UTF_8));
        CHECK.due("README.md has an example", true, fenced.find());
        for (String line : fenced.group(1).split("\n")) {
            Matcher call = CALL.matcher(line);
            if (call.matches()) {
                compare(line, call);
            } else {
                CHECK.due("a call, a comment or the first line: " + line, true,
                    line.isEmpty() || line.startsWith("//") || line.equals("SaltBells x = new SaltBells();"));
            }
        }
        for (Method method : SaltBells.class.getMethods()) {
            boolean own = method.getDeclaringClass() == SaltBells.class;
            CHECK.due(method.getName() + " is shown", own, SHOWN.contains(method.getName()));
        }
        CHECK.end();
    }

    private static void compare(String line, Matcher call) throws IllegalAccessException {
        Method method = named(call.group(1));
        String due = call.group(3) == null ? "null" : call.group(3);
        String got = answer(method, arguments(method, call.group(2)));
        CHECK.due(line + " answered " + got, true, due.equals(got));
        SHOWN.add(call.group(1));
    }

    private static Method named(String name) {
        for (Method method : SaltBells.class.getMethods()) {
            if (method.getName().equals(name)) {
                return method;
            }
        }
        throw new IllegalStateException("README.md shows a call that is none: " + name);
    }

    private static Object[] arguments(Method method, String told) {
        Matcher fed = FED.matcher(told);
        if (fed.matches()) {
            return new Object[] {Check.feed(X, fed.group(1))};
        }
        String[] words = told.isEmpty() ? new String[0] : told.split(", ");
        Object[] values = new Object[words.length];
        for (int i = 0; i < words.length; i++) {
            boolean truth = method.getParameterTypes()[i] == boolean.class;
            values[i] = truth ? (Object) Boolean.valueOf(words[i]) : (Object) Integer.valueOf(words[i]);
        }
        return values;
    }

    private static String answer(Method method, Object[] values) throws IllegalAccessException {
        try {
            return String.valueOf(method.invoke(X, values));
        } catch (InvocationTargetException e) {
            return e.getCause().getClass().getSimpleName();
        }
    }
}
