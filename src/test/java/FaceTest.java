import java.lang.reflect.Constructor;
import java.lang.reflect.Field;
import java.lang.reflect.Method;
import java.lang.reflect.Modifier;
import java.util.Arrays;
import java.util.Set;
import java.util.TreeSet;
import java.util.stream.Collectors;

/** The public face is the document's, and nothing inside bears a name of it. */
public final class FaceTest {
    private static final Set<String> FACE = new TreeSet<>(Set.of("feed", "flat", "orders", "fault", "count", "tower",
        "walker", "far", "heard", "stroke", "ring", "undo", "redo", "why", "search", "seen", "cases", "odds", "best",
        "plan", "worth", "forever", "night", "image", "restore"));

    public static void main(String[] args) {
        Check check = new Check("face");
        Set<String> open = new TreeSet<>();
        for (Method method : SaltBells.class.getDeclaredMethods()) {
            if (!Modifier.isPrivate(method.getModifiers()) && !method.isSynthetic()) {
                open.add(method.getName());
                check.due(method.getName() + " is public", true, Modifier.isPublic(method.getModifiers()));
            } else {
                check.due("private " + method.getName() + " bears a public name", false, FACE.contains(method.getName()));
            }
        }
        check.due("the face is the document's", true, open.equals(FACE));
        for (Field field : SaltBells.class.getDeclaredFields()) {
            boolean isPrivate = Modifier.isPrivate(field.getModifiers());
            check.due("field " + field.getName() + " is as it may be", true, isPrivate || field.getName().equals("NONE"));
        }
        for (Constructor<?> constructor : SaltBells.class.getDeclaredConstructors()) {
            check.same("arguments of a constructor", 0, constructor.getParameterCount());
        }
        for (Class<?> inside : SaltBells.class.getDeclaredClasses()) {
            check.due(inside.getName() + " is static", true, Modifier.isStatic(inside.getModifiers()));
            for (Method method : inside.getDeclaredMethods()) {
                check.due(inside.getName() + "." + method.getName() + " bears a public name", false,
                    FACE.contains(method.getName()));
            }
        }
        check.same("NONE", -1, SaltBells.NONE);
        compareWithDocument(check);
        check.end();
    }

    private static void compareWithDocument(Check check) {
        Document document = Document.read();
        if (document == null) {
            return;
        }
        Set<String> due = document.face();
        Set<String> got = new TreeSet<>();
        for (Method method : SaltBells.class.getDeclaredMethods()) {
            if (Modifier.isPublic(method.getModifiers())) {
                got.add(written(method));
            }
        }
        check.same("calls of the face", FACE.size(), due.size());
        check.due("the face is " + got + ", not " + due, true, due.equals(got));
        check.same("a class that is public and final", Modifier.PUBLIC | Modifier.FINAL, SaltBells.class.getModifiers());
    }

    private static String written(Method method) {
        String line = method.getReturnType().getSimpleName() + " " + method.getName()
            + "(" + names(method.getParameterTypes()) + ")";
        String thrown = names(method.getExceptionTypes());
        return thrown.isEmpty() ? line : line + " throws " + thrown;
    }

    private static String names(Class<?>[] types) {
        return Arrays.stream(types).map(Class::getSimpleName).collect(Collectors.joining(", "));
    }
}
