import java.util.function.LongSupplier;

/** Promises 20 to 22: the best strokes, what is kept of them, what a tower is worth. */
public final class PlanTest {
    private static final Check CHECK = new Check("plans");

    public static void main(String[] args) {
        wrongArguments();
        mostThenFewestThenFirst();
        limitedStrokes();
        kept();
        spent();
        spentByStrokesLeft();
        worth();
        byHand();
        CHECK.end();
    }

    private static void due(String what, long want, LongSupplier call) {
        CHECK.due(what, want, call);
    }

    private static void plan(SaltBells x, int... sets) {
        for (int i = 0; i < sets.length; i++) {
            int at = i;
            due("plan(" + at + ")", sets[at], () -> x.plan(at));
        }
        due("plan beyond", Check.NO_SUCH, () -> x.plan(sets.length));
    }

    private static void wrongArguments() {
        SaltBells x = CHECK.with("tower 2 3 4 0;plain 5 3 9;");
        for (int n : new int[] {0, 5, -1, Integer.MAX_VALUE, Integer.MIN_VALUE}) {
            due("best(" + n + ")", Check.ILLEGAL, () -> x.best(n));
            due("worth(0, " + n + ")", Check.ILLEGAL, () -> x.worth(0, n));
            due("worth(1, " + n + ")", Check.NO_SUCH, () -> x.worth(1, n));
        }
        due("worth(-1, 1)", Check.NO_SUCH, () -> x.worth(-1, 1));
        due("plan(0) of none", Check.NO_SUCH, () -> x.plan(0));
        due("plan(-1)", Check.NO_SUCH, () -> x.plan(-1));
    }

    private static void mostThenFewestThenFirst() {
        SaltBells two = CHECK.with("tower 0 0 2 0;tower 5 5 2 1;plain 1 0 9;plain 4 5 9;");
        due("both come in", 2, () -> two.best(1));
        plan(two, 3);
        due("both come in by two", 2, () -> two.best(2));
        SaltBells taken = CHECK.with("tower 0 0 1 0;tower 1 1 1 1 false;plain 0 1 9;plain 2 1 9;");
        due("none is taken", 1, () -> taken.best(1));
        plan(taken, 1);
        SaltBells later = CHECK.with("tower 0 1 5 0 false;tower 1 3 2 1 strokes 1;tower 0 5 5 2;plain 3 3 9;plain 0 0 9;");
        due("one comes in by either", 1, () -> later.best(2));
        plan(later, 4, 2);
        SaltBells must = CHECK.with("flat 4 2;tower 0 0 1 0;tower 3 0 1 1 false;plain 3 0 1;plain 1 0 0;camel 1 1 0;");
        due("one of them falls", 1, () -> must.best(3));
        SaltBells none = CHECK.with("tower 0 0 1 0;tower 1 0 1 0;");
        due("nobody", 0, () -> none.best(4));
        plan(none, 0, 0, 0, 0);
    }

    private static void limitedStrokes() {
        SaltBells x = CHECK.with("tower 0 0 9 0 strokes 2;plain 3 0 9;");
        due("not by two strokes in three", 0, () -> {
            SaltBells y = CHECK.with("tower 0 0 9 0 strokes 1;plain 3 0 9;");
            return y.best(3);
        });
        due("one stroke goes by itself", 1, () -> x.best(3));
        plan(x, 1, 0, 1);
        due("nothing was done by it", 2, () -> x.tower(0, 3));
        due("nobody went", 3, () -> x.walker(0, 1));
        due("no stroke can be undone", 0, () -> x.count(7));
    }

    private static void kept() {
        SaltBells x = CHECK.with("tower 2 3 4 0;plain 5 3 9;");
        x.best(3);
        plan(x, 1, 0, 1);
        x.stroke(1);
        plan(x, 1, 0, 1);
        due("one who is out", 1, () -> x.best(2));
        plan(x, 0, 1);
        due("worth keeps nothing", 1, () -> x.worth(0, 4));
        plan(x, 0, 1);
        x.ring(1, 2);
        due("how many more, not how many", 0, () -> x.best(1));
        plan(x, 0);
    }

    private static void spent() {
        String five = "tower 0 0 1 0;tower 1 0 1 0;tower 2 0 1 0;tower 3 0 1 0;tower 4 0 1 0;";
        SaltBells x = CHECK.with(five);
        due("32 and 1024", 0, () -> x.best(2));
        plan(x, 0, 0);
        due("and 32768", -2, () -> x.best(3));
        plan(x, 0, 0);
        due("worth", -2, () -> x.worth(0, 3));
        due("worth", 0, () -> x.worth(0, 2));
        SaltBells four = CHECK.with(five.substring(0, 56));
        due("16, 256, 4096", 0, () -> four.best(3));
        due("and 65536", -2, () -> four.best(4));
        SaltBells three = CHECK.with(five.substring(0, 42));
        due("8, 64, 512, 4096", 0, () -> three.best(4));
    }

    private static void spentByStrokesLeft() {
        String once = "tower 0 0 1 0 strokes 1;tower 1 0 1 0 strokes 1;tower 2 0 1 0 strokes 1;";
        SaltBells x = CHECK.with(once + "tower 3 0 1 0 strokes 1;tower 4 0 1 0 strokes 1;");
        due("2, 3, 4, 5 ways of each of five", 0, () -> x.best(4));
        SaltBells y = CHECK.with(once + "tower 3 0 1 0;tower 4 0 1 0;");
        due("125 by 256 rows", -2, () -> y.best(4));
        SaltBells z = CHECK.with(once + "tower 3 0 1 0 strokes 2;tower 4 0 1 0 strokes 2;");
        due("125 by 121 rows, 64 by 49, 27 by 16, 32", 0, () -> z.best(4));
        y.ring(7, 1);
        due("256 rows of two", 0, () -> y.best(4));
    }

    private static void worth() {
        SaltBells x = CHECK.with("tower 0 0 2 0;tower 5 5 2 1;tower 1 1 2 2;plain 1 0 9;plain 4 5 9;plain 5 4 9;");
        due("one by it alone", 0, () -> x.worth(0, 1));
        due("two by it alone", 2, () -> x.worth(1, 1));
        due("none by it alone", 0, () -> x.worth(2, 1));
        due("best", 3, () -> x.best(1));
        x.stroke(2);
        due("they are in", 0, () -> x.worth(1, 1));
        SaltBells dry = CHECK.with("tower 0 0 2 0 strokes 1;plain 1 0 0;");
        due("he falls", 0, () -> dry.worth(0, 4));
        SaltBells empty = CHECK.with("tower 0 0 9 0 strokes 1;camel 1 0 0;");
        due("worth", 1, () -> empty.worth(0, 1));
        empty.stroke(1);
        empty.undo();
        empty.stroke(1);
        due("without strokes left it is worth nothing", 0, () -> empty.worth(0, 2));
    }

    /** All rows tried by strokes that are undone: the best is as kept. */
    private static void byHand() {
        SaltBells x = CHECK.with("tower 1 1 3 0 strokes 2;tower 4 4 3 0 false;tower 0 4 4 1 strokes 1;"
            + "plain 3 1 9;child 2 3 9;stubborn 4 2 9;fearful 1 3 2;");
        for (int stroke = 0; stroke < 3; stroke++) {
            for (int n = 1; n <= 3; n++) {
                int[] row = new int[n];
                int[] best = null;
                int in = -1;
                int taken = 0;
                for (int code = 0; code < 1 << 3 * n; code++) {
                    int done = 0;
                    for (int i = 0; i < n; i++) {
                        row[i] = code >> 3 * (n - 1 - i) & 7;
                        done += done == i && x.stroke(row[i]) >= 0 ? 1 : 0;
                    }
                    if (done == n && (x.count(9) > in || x.count(9) == in && x.count(10) < taken)) {
                        in = x.count(9);
                        taken = x.count(10);
                        best = row.clone();
                    }
                    for (int i = 0; i < done; i++) {
                        x.undo();
                    }
                }
                CHECK.same("best(" + n + ") by hand", in - x.count(9), x.best(n));
                plan(x, best);
            }
            x.stroke(stroke);
        }
    }
}
