import java.util.function.LongSupplier;

/** Promises 16 to 19: where one may be who is unknown to the flat, and the odds. */
public final class SearchTest {
    private static final Check CHECK = new Check("search");

    public static void main(String[] args) {
        without();
        lines();
        moving();
        arriving();
        whatChangesIt();
        CHECK.end();
    }

    private static void due(String what, long want, LongSupplier call) {
        CHECK.due(what, want, call);
    }

    private static void without() {
        SaltBells x = CHECK.with("flat 3 4;");
        due("cases(NONE)", -1, () -> x.cases(-1));
        due("cases(11)", -1, () -> x.cases(11));
        due("cases(12)", Check.NO_SUCH, () -> x.cases(12));
        due("seen(2)", -1, () -> x.seen(2, false, false));
        due("seen(3)", Check.NO_SUCH, () -> x.seen(3, false, false));
        due("seen row 3", -1, () -> x.seen(3, true, false));
        due("seen row 4", Check.NO_SUCH, () -> x.seen(4, true, false));
        due("odds", -1, () -> x.odds(0, 1));
        due("odds of NONE", Check.NO_SUCH, () -> x.odds(-1, 0));
        due("odds 2", Check.NO_SUCH, () -> x.odds(0, 2));
        due("no stroke begins it", 0, () -> x.stroke(0));
        due("cases(NONE)", -1, () -> x.cases(-1));
    }

    private static void lines() {
        SaltBells x = CHECK.with("flat 3 4;");
        due("search", 12, x::search);
        due("odds", 1, () -> x.odds(0, 0));
        due("odds", 12, () -> x.odds(0, 1));
        due("not in column 1", 8, () -> x.seen(1, false, true));
        due("not there", 0, () -> x.cases(1));
        due("there", 1, () -> x.cases(2));
        due("in row 3", 2, () -> x.seen(3, true, false));
        due("odds of one of two", 2, () -> x.odds(9, 1));
        due("odds of none", 0, () -> x.odds(10, 0));
        due("odds of none", 1, () -> x.odds(10, 1));
        due("seen -1", Check.NO_SUCH, () -> x.seen(-1, true, false));
        due("seen 4", Check.NO_SUCH, () -> x.seen(4, true, true));
        due("cases(-2)", Check.NO_SUCH, () -> x.cases(-2));
        due("odds(12)", Check.NO_SUCH, () -> x.odds(12, 0));
        due("odds -1", Check.NO_SUCH, () -> x.odds(0, -1));
        due("none left", 0, () -> x.seen(1, false, false));
        due("odds without cases", 0, () -> x.odds(9, 0));
        due("odds without cases", 1, () -> x.odds(9, 1));
        due("cases without", 0, () -> x.cases(-1));
        due("search anew", 12, x::search);
    }

    private static void moving() {
        SaltBells x = CHECK.with("flat 2 2;");
        x.search();
        x.stroke(0);
        due("two in one cell", 2, () -> x.cases(0));
        due("lowest terms, upper", 1, () -> x.odds(1, 0));
        due("lowest terms, lower", 2, () -> x.odds(1, 1));
        x.stroke(0);
        due("all east", 4, () -> x.cases(1));
        due("one, upper", 1, () -> x.odds(1, 0));
        due("one, lower", 1, () -> x.odds(1, 1));
        x.stroke(0);
        due("all south", 4, () -> x.cases(3));
        SaltBells tall = CHECK.with("flat 2 3;");
        tall.search();
        tall.ring(0, 2);
        due("4 of 6, upper", 2, () -> tall.odds(1, 0));
        due("4 of 6, lower", 3, () -> tall.odds(1, 1));
        SaltBells turned = CHECK.with("tower 0 0 2 0;");
        turned.search();
        turned.ring(1, 2);
        due("in row 0", 7, () -> turned.seen(0, true, false));
        due("not in column 5", 3, () -> turned.seen(5, false, true));
        turned.stroke(0);
        due("two headed south", 2, () -> turned.cases(4 + 6));
        due("one west, whence the bell rang", 1, () -> turned.cases(0));
        due("search", 36, turned::search);
        due("in column 0", 6, () -> turned.seen(0, false, false));
        turned.stroke(0);
        due("heading north at first, again", 2, () -> turned.cases(0));
        SaltBells misled = CHECK.with("flat 3 2;tower 0 0 20 0;mirage 1 0;");
        misled.search();
        misled.stroke(1);
        int[] cases = {0, 1, 1, 1, 1, 0};
        for (int cell = 0; cell < cases.length; cell++) {
            CHECK.same("by a mirage, cell " + cell, cases[cell], misled.cases(cell));
        }
    }

    private static void arriving() {
        SaltBells x = CHECK.with("flat 3 3;tower 1 1 1 0;tower 0 0 1 0 false;");
        x.search();
        x.stroke(1);
        due("those in and next to it are gone", 4, () -> x.cases(-1));
        int[] corners = {1, 0, 1, 1, 0, 1, 0, 0, 0};
        for (int cell = 0; cell < corners.length; cell++) {
            CHECK.same("who heard none went north, cell " + cell, corners[cell], x.cases(cell));
        }
        x.stroke(3);
        due("the others are in or taken", 1, () -> x.cases(-1));
        due("one who hears none", 1, () -> x.cases(2));
    }

    private static void whatChangesIt() {
        SaltBells x = CHECK.with("tower 0 0 20 0;plain 5 5 99;");
        x.stroke(1);
        due("search", 36, x::search);
        x.stroke(1);
        due("the cell of the tower, and those beside it", 33, () -> x.cases(-1));
        x.undo();
        due("undone: no change", 33, () -> x.cases(-1));
        x.redo();
        due("done again: as done", 30, () -> x.cases(-1));
        x.image();
        x.stroke(1);
        due("a stroke", 26, () -> x.cases(-1));
        x.restore();
        due("an image keeps it not", 26, () -> x.cases(-1));
        x.stroke(9);
        due("what can't be changes nothing", 26, () -> x.cases(-1));
        x.ring(1, 20);
        due("all come in", 0, () -> x.cases(-1));
    }
}
