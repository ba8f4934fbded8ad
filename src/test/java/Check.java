import java.nio.charset.StandardCharsets;
import java.util.NoSuchElementException;
import java.util.function.LongSupplier;

/** What the tests share: texts fed to an object, answers compared, wrong ones printed. */
final class Check {
    /** An answer that stands for an exception; no call answers a number so low. */
    static final long NO_SUCH = -1_000_001;
    static final long ILLEGAL = -1_000_002;

    private final String name;
    private final Document document = Document.read();
    private String sentence = "";
    private int wrong;
    private int compared;
    private int comparedBefore = -1;

    Check(String name) {
        this.name = name;
    }

    /** What is compared from here on tests these words of the document, of that part of it. */
    void sentence(String where, String words) {
        endSentence();
        sentence = " [" + where + ": " + words + "]";
        comparedBefore = compared;
        if (document != null && !document.says(where, words)) {
            complain("the document says no such thing");
        }
    }

    private void endSentence() {
        if (compared == comparedBefore) {
            complain("nothing tests the sentence");
        }
    }

    private void complain(String what) {
        wrong++;
        System.out.println(name + sentence + ": " + what);
    }

    /** The call's answer, or the number of the exception that it throws. */
    static long answer(LongSupplier call) {
        try {
            return call.getAsLong();
        } catch (NoSuchElementException e) {
            return NO_SUCH;
        } catch (IllegalArgumentException e) {
            return ILLEGAL;
        }
    }

    void due(String what, long want, LongSupplier call) {
        same(what, want, answer(call));
    }

    void due(String what, boolean want, boolean got) {
        same(what, want ? 1 : 0, got ? 1 : 0);
    }

    void same(String what, long want, long got) {
        compared++;
        if (want != got) {
            complain(what + " answered " + told(got) + ", due is " + told(want));
        }
    }

    private static String told(long answer) {
        if (answer == NO_SUCH) {
            return "NoSuchElementException";
        }
        return answer == ILLEGAL ? "IllegalArgumentException" : Long.toString(answer);
    }

    void end() {
        endSentence();
        if (wrong > 0) {
            System.out.println(name + ": " + wrong + " wrong");
            System.exit(1);
        }
        System.out.println(name + ": all answers are as due");
        if (document == null) {
            System.out.println(name + ": without the document the sentences' words were not compared");
        }
    }

    /** Feeds a text, filled up with blanks; its own length. */
    static int feed(SaltBells x, String text) {
        byte[] bytes = text.getBytes(StandardCharsets.ISO_8859_1);
        for (int at = 0; at < bytes.length; at += 20) {
            int[] five = new int[5];
            for (int i = 0; i < 20; i++) {
                int b = at + i < bytes.length ? bytes[at + i] & 255 : ' ';
                five[i / 4] = five[i / 4] << 8 | b;
            }
            x.feed(five[0], five[1], five[2], five[3], five[4]);
        }
        return bytes.length;
    }

    static int flat(SaltBells x, String text) {
        return x.flat(feed(x, text));
    }

    static int orders(SaltBells x, String text) {
        return x.orders(feed(x, text));
    }

    /** A new object with a flat that has no fault. */
    SaltBells with(String text) {
        SaltBells x = new SaltBells();
        same("flat of '" + text + "'", 0, flat(x, text));
        return x;
    }

    void count(SaltBells x, int what, int want) {
        due("count(" + what + ")", want, () -> x.count(what));
    }

    /** All counts, from the first on, as one row of numbers. */
    void counts(SaltBells x, int... wants) {
        for (int what = 0; what < wants.length; what++) {
            count(x, what, wants[what]);
        }
    }

    /** How he is: kind, cell, water and so on, as one row of numbers. */
    void walker(SaltBells x, int walker, int... wants) {
        for (int what = 0; what < wants.length; what++) {
            int asked = what;
            due("walker(" + walker + ", " + what + ")", wants[what], () -> x.walker(walker, asked));
        }
    }
}
