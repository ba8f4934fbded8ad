/** Where tokens begin and end in a text whose numbers have one digit each. */
final class Tokens {
    private Tokens() {
    }

    private static boolean isLetter(String text, int at) {
        return at >= 0 && at < text.length() && Character.isLetter(text.charAt(at));
    }

    static boolean starts(String text, int at) {
        return text.charAt(at) != ' ' && !(isLetter(text, at) && isLetter(text, at - 1));
    }

    static int end(String text, int at) {
        int end = at + 1;
        while (isLetter(text, at) && isLetter(text, end)) {
            end++;
        }
        return end;
    }

    /** Where a word begins that is cut off at n in its midst; -1: none is. */
    static int startOfWordCut(String text, int n) {
        if (!isLetter(text, n - 1) || !isLetter(text, n)) {
            return -1;
        }
        int at = n - 1;
        while (isLetter(text, at - 1)) {
            at--;
        }
        return at;
    }
}
