import java.util.Arrays;
import java.util.function.LongSupplier;

/** Sentences with a boundary case, each with its test: the best strokes (Terms 5), promises 20 to 22. */
public final class EdgePlanTest {
    private static final Check CHECK = new Check("edges of plans");
    private static final int[] NO_LENGTH = {0, 5, -1, Integer.MIN_VALUE, Integer.MAX_VALUE};

    /** Two who hear the false tower alone are lured by it next to the true one; the third is taken then. */
    private static final String LURE = "tower 0 0 1 0;tower 0 1 5 1 false;plain 2 0 9;plain 2 0 9;plain 0 1 9;";

    public static void main(String[] args) {
        oneToFour();
        thatCanBe();
        mostComeIn();
        fewestAreTaken();
        theFirstRow();
        spent();
        spentByStrokesLeft();
        worthOfATower();
        bestAnswers();
        bestKeeps();
        bestRefused();
        plan();
        worthAnswers();
        CHECK.end();
    }

    private static void due(String what, long want, LongSupplier call) {
        CHECK.due(what, want, call);
    }

    private static void plan(SaltBells x, int... sets) {
        for (int i = 0; i < sets.length; i++) {
            int at = i;
            due("plan(" + at + ")", sets[at], () -> x.plan(at));
        }
        due("plan(" + sets.length + ")", Check.NO_SUCH, () -> x.plan(sets.length));
    }

    private static void oneToFour() {
        CHECK.sentence("Terms 5", "THE BEST n STROKES (1 to 4) from now on");
        int[] more = {1, 2, 3, 4};
        SaltBells x = CHECK.with("tower 0 0 9 0;plain 1 0 9;plain 2 0 9;plain 3 0 9;plain 4 0 9;");
        for (int n = 1; n <= 4; n++) {
            int length = n;
            due("best(" + n + ")", more[n - 1], () -> x.best(length));
        }
        // By the still one all go on to the west.
        plan(x, 1, 0, 1, 1);
        due("best(0)", Check.ILLEGAL, () -> x.best(0));
        due("best(5)", Check.ILLEGAL, () -> x.best(5));
        x.ring(1, 2);
        due("two are in already", 2, () -> x.best(2));
        due("the next", 1, () -> x.best(1));
        SaltBells child = CHECK.with("tower 0 0 9 0;camel 5 5 0;camel 5 5 0;camel 5 5 0;child 1 0 9;");
        due("a child that rests", 0, () -> child.best(1));
        child.stroke(1);
        due("a child that rested", 1, () -> child.best(1));
    }

    private static void thatCanBe() {
        CHECK.sentence("Terms 5", "rows of sets of TOWERS (that can be)");
        SaltBells x = CHECK.with("tower 0 0 9 0 strokes 2;camel 3 0 0;");
        due("by two strokes, and a still one between", 1, () -> x.best(4));
        plan(x, 0, 1, 0, 1);
        x.stroke(1);
        due("one is left", 1, () -> x.best(4));
        plan(x, 0, 0, 1, 0);
        x.stroke(1);
        due("none is left", 0, () -> x.best(4));
        plan(x, 0, 0, 0, 0);
        SaltBells once = CHECK.with("tower 0 0 9 0 strokes 1;camel 3 0 0;");
        due("by one stroke nobody", 0, () -> once.best(4));
        plan(once, 0, 0, 0, 0);
        SaltBells none = new SaltBells();
        due("no towers", 0, () -> none.best(4));
        plan(none, 0, 0, 0, 0);
    }

    private static void mostComeIn() {
        CHECK.sentence("Terms 5", "by which most WALKERS come in");
        SaltBells x = CHECK.with(LURE);
        due("two come in, one is taken", 2, () -> x.best(2));
        plan(x, 2, 1);
        due("by one stroke", 1, () -> x.best(1));
        plan(x, 1);
        SaltBells ahead = CHECK.with("tower 0 1 5 1 false;tower 0 0 1 0;plain 2 0 9;plain 2 0 9;plain 0 1 9;");
        due("two come in, though rows behind it take none", 2, () -> ahead.best(2));
        plan(ahead, 1, 2);
        SaltBells all = CHECK.with("tower 0 0 1 0;tower 5 0 1 0;tower 0 5 1 0;tower 5 5 1 0;"
            + "camel 0 0 0;camel 5 0 0;camel 0 5 0;camel 5 5 0;");
        due("all four", 4, () -> all.best(1));
        plan(all, 15);
    }

    private static void fewestAreTaken() {
        CHECK.sentence("Terms 5", "of like ones fewest are taken");
        SaltBells x = CHECK.with("tower 0 1 5 0 false;tower 1 3 2 1 strokes 1;tower 0 5 5 2;plain 3 3 9;plain 0 0 9;");
        due("one comes in", 1, () -> x.best(2));
        plan(x, 4, 2);
        CHECK.same("the row ahead of it, too", 0, x.stroke(1));
        CHECK.same("the row ahead of it, too", 1, x.stroke(2));
        CHECK.count(x, 10, 1);
    }

    private static void theFirstRow() {
        CHECK.sentence("Terms 5", "of like ones the first as a row.");
        SaltBells x = CHECK.with("tower 0 0 9 0;tower 0 1 9 1;camel 1 0 0;");
        due("at once", 1, () -> x.best(1));
        plan(x, 1);
        SaltBells late = CHECK.with("flat 2 2;tower 0 0 9 0;camel 0 0 0;");
        due("before he is too far off", 1, () -> late.best(4));
        plan(late, 0, 0, 1, 0);
        SaltBells nobody = CHECK.with("tower 0 0 9 0;tower 0 1 9 1;");
        due("nobody", 0, () -> nobody.best(3));
        plan(nobody, 0, 0, 0);
    }

    private static SaltBells withStrokes(int... strokes) {
        StringBuilder text = new StringBuilder("camel 5 5 0;");
        for (int t = 0; t < strokes.length; t++) {
            text.append("tower ").append(t).append(" 0 1 0 strokes ").append(strokes[t]).append(';');
        }
        return CHECK.with(text.toString());
    }

    private static void spent() {
        CHECK.sentence("Terms 5", "SPENT: more than 20,000 STROKES would be tried (one for each set at each place of all rows).");
        int[][] longest = {{1, 4}, {2, 4}, {3, 4}, {4, 3}, {5, 2}};
        for (int[] most : longest) {
            int[] strokes = new int[most[0]];
            Arrays.fill(strokes, 99);
            SaltBells x = withStrokes(strokes);
            for (int n = 1; n <= 4; n++) {
                int length = n;
                due("best(" + n + ") of " + most[0], n <= most[1] ? 0 : -2, () -> x.best(length));
                due("worth(0, " + n + ") of " + most[0], n <= most[1] ? 0 : -2, () -> x.worth(0, length));
            }
        }
    }

    /** How many are tried is told by the strokes left: sets at the first place, at the second one, and so on. */
    private static void spentByStrokesLeft() {
        CHECK.sentence("Terms 5", "(one for each set at each place of all rows)");
        due("16, 192, 2048, 16875: 19131", 0, () -> withStrokes(1, 3, 3, 3).best(4));
        due("16, 192, 2048, 18000: 20256", -2, () -> withStrokes(1, 3, 3, 4).best(4));
        due("17863", 0, () -> withStrokes(2, 2, 2, 2, 2).best(3));
        due("20264", -2, () -> withStrokes(2, 2, 2, 2, 3).best(3));
        due("worth of 19131", 0, () -> withStrokes(1, 3, 3, 3).worth(1, 4));
        due("worth of 20256", -2, () -> withStrokes(1, 3, 3, 4).worth(1, 4));
        SaltBells x = withStrokes(99, 99, 99, 1);
        due("22736", -2, () -> x.best(4));
        x.stroke(8);
        due("8, 64, 512, 4096", 0, () -> x.best(4));
        x.undo();
        due("again", -2, () -> x.best(4));
    }

    private static void worthOfATower() {
        CHECK.sentence("Terms 5", "WORTH of a TOWER: by how many more come in than if it had no STROKES left "
            + "(rows without it), by THE BEST n.");
        SaltBells x = CHECK.with(LURE);
        due("the true one", 2, () -> x.worth(0, 2));
        due("the false one, which lures", 1, () -> x.worth(1, 2));
        due("by one stroke", 0, () -> x.worth(1, 1));
        SaltBells last = CHECK.with("tower 0 0 9 0 strokes 1;tower 0 1 9 1;camel 1 0 0;camel 5 0 0;");
        due("the other does as well", 0, () -> last.worth(0, 4));
        due("by one stroke", 1, () -> last.worth(0, 1));
        last.stroke(1);
        due("it has none left", 0, () -> last.worth(0, 4));
        due("strokes stay", 99, () -> last.tower(1, 3));
        due("how many more, not how many", 0, () -> last.worth(1, 1));
    }

    private static void bestAnswers() {
        CHECK.sentence("Promise 20", "THE BEST n: how many more come in (it is kept)");
        SaltBells x = CHECK.with("tower 0 0 9 0;plain 1 0 9;plain 2 0 9;plain 0 0 0;");
        due("nobody's without", Check.NO_SUCH, () -> x.plan(0));
        due("two of three", 2, () -> x.best(2));
        plan(x, 1, 1);
        CHECK.counts(x, 6, 6, 1, 3, 0, 0, 0, 0, 0, 0, 0, 0, 0, 0, 0);
        CHECK.walker(x, 0, 0, 1, 9, 0, 0, -1, 0);
        due("no stroke is used", 99, () -> x.tower(0, 3));
        x.stroke(1);
        plan(x, 1, 1);
        due("one more", 1, () -> x.best(1));
        plan(x, 1);
        x.stroke(1);
        due("no more", 0, () -> x.best(3));
        plan(x, 0, 0, 0);
        x.undo();
        x.image();
        x.restore();
        plan(x, 0, 0, 0);
    }

    private static void bestKeeps() {
        CHECK.sentence("Promise 20", "-2: SPENT (what is kept stays).");
        SaltBells x = CHECK.with("tower 0 0 1 0;tower 1 0 1 0;tower 2 0 1 0;tower 3 0 1 0;tower 4 0 1 0;camel 0 0 0;");
        due("spent", -2, () -> x.best(4));
        due("nothing is kept", Check.NO_SUCH, () -> x.plan(0));
        due("best", 1, () -> x.best(1));
        plan(x, 1);
        due("spent", -2, () -> x.best(3));
        plan(x, 1);
        due("spent", -2, () -> x.worth(0, 3));
        plan(x, 1);
    }

    private static void bestRefused() {
        CHECK.sentence("Promise 20", "IllegalArgumentException: n.");
        SaltBells x = CHECK.with("tower 0 0 1 0;camel 0 0 0;");
        x.best(1);
        for (int n : NO_LENGTH) {
            due("best(" + n + ")", Check.ILLEGAL, () -> x.best(n));
            plan(x, 1);
        }
    }

    private static void plan() {
        CHECK.sentence("Promise 21", "The i-th set of THE BEST that is kept. NoSuchElementException: there is none.");
        SaltBells x = CHECK.with("tower 0 0 9 0;camel 4 0 0;");
        due("none is kept", Check.NO_SUCH, () -> x.plan(0));
        due("by four", 1, () -> x.best(4));
        plan(x, 1, 0, 1, 1);
        for (int i : new int[] {5, -1, Integer.MIN_VALUE, Integer.MAX_VALUE}) {
            due("plan(" + i + ")", Check.NO_SUCH, () -> x.plan(i));
        }
        due("by two", 0, () -> x.best(2));
        plan(x, 0, 0);
        due("beyond two", Check.NO_SUCH, () -> x.plan(3));
        due("worth keeps none", 1, () -> x.worth(0, 4));
        plan(x, 0, 0);
    }

    private static void worthAnswers() {
        CHECK.sentence("Promise 22", "WORTH; -2: SPENT.");
        due("spent", -2, () -> withStrokes(9, 9, 9, 9, 9).worth(4, 3));
        due("not spent", 0, () -> withStrokes(9, 9, 9, 9, 9).worth(4, 2));

        CHECK.sentence("Promise 22", "IllegalArgumentException (behind NoSuchElementException): n.");
        SaltBells x = CHECK.with("tower 0 0 1 0;camel 0 0 0;");
        for (int n : NO_LENGTH) {
            due("worth(0, " + n + ")", Check.ILLEGAL, () -> x.worth(0, n));
            due("worth(1, " + n + ")", Check.NO_SUCH, () -> x.worth(1, n));
            due("worth(-1, " + n + ")", Check.NO_SUCH, () -> x.worth(-1, n));
        }
        due("worth(1, 1)", Check.NO_SUCH, () -> x.worth(1, 1));
        due("worth(0, 4)", 1, () -> x.worth(0, 4));
        due("of no towers", Check.NO_SUCH, () -> new SaltBells().worth(0, 1));
    }
}
