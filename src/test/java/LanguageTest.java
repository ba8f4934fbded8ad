import java.io.IOException;
import java.lang.reflect.Field;
import java.lang.reflect.Method;
import java.lang.reflect.Modifier;
import java.nio.charset.StandardCharsets;
import java.nio.file.Files;
import java.nio.file.Path;
import java.util.ArrayList;
import java.util.List;
import java.util.Set;
import java.util.regex.Matcher;
import java.util.regex.Pattern;

/** The rules of ../shared/LANGUAGE.md that can be seen from the source's words and from its classes. */
public final class LanguageTest {
    private static final Check CHECK = new Check("language");

    private static final Set<String> IMPORTS = Set.of("java.util.ArrayList", "java.util.Arrays", "java.util.Iterator",
        "java.util.List", "java.util.NoSuchElementException");
    private static final Set<String> LIBRARY = Set.of("System.arraycopy", "Arrays.fill", "Arrays.copyOf",
        "Arrays.copyOfRange", "Math.abs", "Math.min", "Math.max", "Integer.bitCount");
    private static final String[] REFUSED = {"\\bfinally\\b", "\\bsynchronized\\b", "\\bassert\\b", "\\bcatch\\b", "->",
        "::", "\\bvar\\b", "\\bstatic \\{", "\\bprotected\\b", "\\btransient\\b", "\\bvolatile\\b", "\\bnative\\b",
        "\\bpackage\\b", "\\bObject\\b", "\\+ \"", "\" \\+", "@\\w+"};
    private static final int MOST_CLASSES = 12;
    private static final int MOST_FIELDS = 20;
    private static final int MOST_PARAMETERS = 7;
    private static final int MOST_LINES = 60;

    public static void main(String[] args) throws IOException {
        String source = Files.readString(Path.of("src/main/java/SaltBells.java"), StandardCharsets.ISO_8859_1);
        String words = withoutComments(source);
        compareWords(source, words);
        compareThrows(words);
        compareLengths(source);
        List<Class<?>> classes = new ArrayList<>(List.of(SaltBells.class.getDeclaredClasses()));
        classes.add(SaltBells.class);
        CHECK.due("classes: " + classes.size(), true, classes.size() <= MOST_CLASSES);
        for (Class<?> one : classes) {
            compareFields(one);
            compareMethods(one);
        }
        CHECK.end();
    }

    private static String withoutComments(String source) {
        return source.replaceAll("(?s)/\\*.*?\\*/", " ").replaceAll("//[^\n]*", " ");
    }

    private static void compareWords(String source, String words) {
        CHECK.due("signs 1 to 127 alone", true, source.chars().allMatch(sign -> sign >= 1 && sign <= 127));
        for (Matcher found = Pattern.compile("import ([\\w.*]+);").matcher(words); found.find();) {
            CHECK.due("rule 4: " + found.group(), true, IMPORTS.contains(found.group(1)));
        }
        for (Matcher found = Pattern.compile("\\b(System|Arrays|Math|Integer|Long)\\.\\w+").matcher(words); found.find();) {
            CHECK.due("rule 4: " + found.group(), true, LIBRARY.contains(found.group()));
        }
        for (String refused : REFUSED) {
            Matcher found = Pattern.compile(refused).matcher(words);
            CHECK.due("no " + refused, false, found.find());
        }
    }

    private static void compareThrows(String words) {
        for (Matcher found = Pattern.compile("\\bthrow\\b[^;]*;").matcher(words); found.find();) {
            CHECK.due("rule 6: " + found.group(), true, found.group().matches(
                "throw new (NoSuchElementException|IllegalArgumentException)\\(\"[ \\w]+\"\\);"));
        }
    }

    /** A method begins with a line that opens it, and ends with the brace below that line's first sign. */
    private static void compareLengths(String source) {
        String[] lines = source.split("\n");
        Pattern opening = Pattern.compile("( +)[\\w ]*[\\w\\[\\]]+ ?\\w+\\(.*\\{");
        for (int i = 0; i < lines.length; i++) {
            Matcher opens = opening.matcher(lines[i]);
            if (opens.matches() && !lines[i].matches(" *(if|for|while|switch|else|\\}) .*")) {
                int end = i;
                while (end < lines.length - 1 && !lines[end].equals(opens.group(1) + "}")) {
                    end++;
                }
                CHECK.due("rule 11:" + lines[i] + " has " + (end - i + 1) + " lines", true, end - i < MOST_LINES);
            }
        }
    }

    private static void compareFields(Class<?> one) {
        int own = 0;
        for (Field field : one.getDeclaredFields()) {
            String name = one.getSimpleName() + "." + field.getName();
            Class<?> type = field.getType();
            if (Modifier.isStatic(field.getModifiers())) {
                CHECK.due("rule 5: " + name, true, Modifier.isFinal(field.getModifiers())
                    && Set.of(int.class, long.class, boolean.class, char.class, String.class).contains(type));
            } else {
                own++;
            }
            if (type.isArray() && type.getComponentType().isArray()) {
                CHECK.due("rule 3: " + name, true, type.getComponentType().getComponentType().isPrimitive());
            }
        }
        CHECK.due("rule 11: fields of " + one.getSimpleName() + ": " + own, true, own <= MOST_FIELDS);
    }

    private static void compareMethods(Class<?> one) {
        for (Method method : one.getDeclaredMethods()) {
            String name = one.getSimpleName() + "." + method.getName();
            CHECK.due("rule 11: " + name, true, method.getParameterCount() <= MOST_PARAMETERS);
            CHECK.due("rule 6: " + name, false, Set.of("equals", "hashCode", "toString").contains(method.getName()));
        }
        if (one != SaltBells.class) {
            CHECK.due("rule 1: " + one, false, Modifier.isPublic(one.getModifiers()));
            CHECK.due("rule 1: " + one, true, Modifier.isStatic(one.getModifiers()));
        }
    }
}
