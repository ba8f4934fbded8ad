import java.lang.reflect.Constructor;
import java.lang.reflect.Field;
import java.lang.reflect.Method;
import java.lang.reflect.Modifier;
import java.util.Set;
import java.util.TreeSet;

/** The public face is the document's, and nothing inside bears a name of it. */
public final class FaceTest {
    private static final Set<String> FACE = new TreeSet<>(Set.of("feed", "flat", "orders", "fault", "count", "tower",
        "walker", "far", "heard", "stroke", "ring", "undo", "redo", "why", "search", "seen", "cases", "odds", "best",
        "plan", "worth", "forever", "night", "image", "restore"));

    public static void main(String[] args) {
        Check check = new Check("face");
        Set<String> open = new TreeSet<>();
        for (Method method : SaltBells.class.getDeclaredMethods()) {
            if (!Modifier.isPrivate(method.getModifiers()) && !method.isSynthetic()) {
                open.add(method.getName());
                check.due(method.getName() + " is public", true, Modifier.isPublic(method.getModifiers()));
            } else {
                check.due("private " + method.getName() + " bears a public name", false, FACE.contains(method.getName()));
            }
        }
        check.due("the face is the document's", true, open.equals(FACE));
        for (Field field : SaltBells.class.getDeclaredFields()) {
            boolean isPrivate = Modifier.isPrivate(field.getModifiers());
            check.due("field " + field.getName() + " is as it may be", true, isPrivate || field.getName().equals("NONE"));
        }
        for (Constructor<?> constructor : SaltBells.class.getDeclaredConstructors()) {
            check.same("arguments of a constructor", 0, constructor.getParameterCount());
        }
        for (Class<?> inside : SaltBells.class.getDeclaredClasses()) {
            check.due(inside.getName() + " is static", true, Modifier.isStatic(inside.getModifiers()));
            for (Method method : inside.getDeclaredMethods()) {
                check.due(inside.getName() + "." + method.getName() + " bears a public name", false,
                    FACE.contains(method.getName()));
            }
        }
        check.same("NONE", -1, SaltBells.NONE);
        check.end();
    }
}
