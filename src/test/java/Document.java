import java.io.IOException;
import java.nio.charset.StandardCharsets;
import java.nio.file.Files;
import java.nio.file.Path;
import java.util.Set;
import java.util.TreeSet;

/** The document's own words, so that a test can't quote a sentence that isn't there. */
final class Document {
    private static final Path PLACE = Path.of("..", "shared", "DOC.md");

    private final String text;

    private Document(String text) {
        this.text = text;
    }

    /** The document beside the project; null, if it can't be read from where the tests run. */
    static Document read() {
        try {
            return new Document(Files.readString(PLACE, StandardCharsets.UTF_8));
        } catch (IOException e) {
            return null;
        }
    }

    /** Whether these words stand in a part: 'What it is', 'Terms 1' to 'Terms 5', 'Promise 1' to 'Promise 26'. */
    boolean says(String where, String words) {
        return plain(part(where)).contains(plain(words));
    }

    /** The calls of the public face, without the names of their arguments. */
    Set<String> face() {
        Set<String> calls = new TreeSet<>();
        for (String line : below("The public face\n").split("\n")) {
            if (line.startsWith("    public ") && line.contains("(") && !line.contains(" SaltBells(")) {
                calls.add(line.trim().replaceAll("^public |;$", "").replaceAll("(int|boolean) \\w+([,)])", "$1$2"));
            }
        }
        return calls;
    }

    private String part(String where) {
        if (where.startsWith("Terms ")) {
            String[] terms = below("Terms\n").split("==== [2-5]\\.");
            int part = Integer.parseInt(where.substring("Terms ".length()));
            return part <= terms.length ? terms[part - 1] : "";
        }
        return below(where.startsWith("Promise ") ? where + ":" : where + "\n");
    }

    private String below(String heading) {
        int begin = text.indexOf("\n## " + heading);
        if (begin < 0) {
            return "";
        }
        int end = text.indexOf("\n## ", begin + 1);
        return text.substring(begin, end < 0 ? text.length() : end);
    }

    private static String plain(String words) {
        return words.replaceAll("\\s+", " ");
    }
}
