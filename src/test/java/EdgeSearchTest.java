import java.util.function.LongSupplier;

/** Sentences with a boundary case, each with its test: the search (Terms 4), promises 16 to 19. */
public final class EdgeSearchTest {
    private static final Check CHECK = new Check("edges of the search");
    private static final int[] FAR_OFF = {-1, Integer.MIN_VALUE, Integer.MAX_VALUE};

    public static void main(String[] args) {
        waterEnough();
        eachCell();
        asAPlainWalker();
        inOrTaken();
        lines();
        lowestTerms();
        anewAndAgain();
        search();
        seen();
        cases();
        odds();
        CHECK.end();
    }

    private static void due(String what, long want, LongSupplier call) {
        CHECK.due(what, want, call);
    }

    private static void waterEnough() {
        CHECK.sentence("Terms 4", "SEARCH for one more, a plain one with WATER enough, unknown to the flat");
        SaltBells x = CHECK.with("plain 3 3 0;plain 3 3 0;plain 3 3 0;plain 3 3 0;");
        due("the flat's own are no cases", 36, x::search);
        x.ring(0, 200);
        x.ring(0, 200);
        due("none falls", 36, () -> x.cases(-1));
        CHECK.count(x, 3, 4);
        CHECK.count(x, 11, 4);
    }

    private static void eachCell() {
        CHECK.sentence("Terms 4", "at first he may be in each CELL");
        for (String size : new String[] {"2 2", "10 10", "2 10", "10 2", "7 3"}) {
            SaltBells x = CHECK.with("flat " + size + ";tower 0 0 9 0;plain 1 1 9;");
            int cells = x.count(0) * x.count(1);
            CHECK.same("cases of " + size, cells, x.search());
            for (int cell = 0; cell < cells; cell++) {
                CHECK.same("cases(" + cell + ") of " + size, 1, x.cases(cell));
            }
        }
    }

    private static void asAPlainWalker() {
        CHECK.sentence("Terms 4", "with each STROKE that was done since he goes as a plain WALKER does, HEADING north at first");
        String flat = "flat 4 3;tower 0 0 2 0;tower 3 2 2 1 false;tower 2 0 1 0;mirage 1 1;mirage 3 1;wind west 1;";
        int[] sets = {1, 0, 2, 0, 4, 0, 0, 3, 7, 0, 0, 0, 0, 6, 0};
        SaltBells x = CHECK.with(flat);
        x.ring(0, 3);
        x.search();
        SaltBells[] one = new SaltBells[12];
        for (int cell = 0; cell < one.length; cell++) {
            one[cell] = CHECK.with(flat + "plain " + cell % 4 + " " + cell / 4 + " 99;");
        }
        for (int set : sets) {
            x.stroke(set);
            int[] cases = new int[12];
            for (SaltBells y : one) {
                y.stroke(set);
                cases[y.walker(0, 1)] += y.walker(0, 4) == 0 ? 1 : 0;
            }
            for (int cell = 0; cell < cases.length; cell++) {
                CHECK.same("cases(" + cell + ") by " + set, cases[cell], x.cases(cell));
            }
        }
    }

    private static void inOrTaken() {
        CHECK.sentence("Terms 4", "one who would be in or taken is no more");
        for (String isFalse : new String[] {"", " false"}) {
            SaltBells x = CHECK.with("flat 2 2;tower 0 0 9 0" + isFalse + ";");
            x.search();
            x.stroke(1);
            due("the cell, and those beside it", 1, () -> x.cases(-1));
            due("from the other corner", 1, () -> x.cases(2));
            x.stroke(1);
            due("nobody", 0, () -> x.cases(-1));
            x.stroke(1);
            x.stroke(0);
            due("nobody comes back", 0, () -> x.cases(-1));
            CHECK.count(x, 9, 0);
            CHECK.count(x, 10, 0);
        }
    }

    private static void lines() {
        CHECK.sentence("Terms 4", "SEEN: he is in a column or row, or NOT: cases that don't fit are no more.");
        SaltBells x = CHECK.with("flat 5 3;");
        int[] left = {3, 12, 5, 10};
        for (int last = 0; last < 2; last++) {
            for (int i = 0; i < left.length; i++) {
                boolean row = i > 1;
                boolean not = i % 2 == 1;
                int line = last == 0 ? 0 : row ? 2 : 4;
                CHECK.same("search", 15, x.search());
                CHECK.same("seen " + line + " " + row + " " + not, left[i], x.seen(line, row, not));
                for (int cell = 0; cell < 15; cell++) {
                    boolean there = (row ? cell / 5 : cell % 5) == line;
                    CHECK.same("cases(" + cell + ")", there != not ? 1 : 0, x.cases(cell));
                }
            }
        }
        x.search();
        due("in a column", 3, () -> x.seen(1, false, false));
        due("not in it", 0, () -> x.seen(1, false, true));
        due("of none", 0, () -> x.seen(1, false, false));
        SaltBells headed = CHECK.with("tower 0 0 2 0;");
        headed.search();
        headed.stroke(1);
        headed.stroke(1);
        due("in row 0", 7, () -> headed.seen(0, true, false));
        due("not in column 5", 3, () -> headed.seen(5, false, true));
        headed.stroke(0);
        due("each goes on by his own heading: two south", 2, () -> headed.cases(10));
        due("one west", 1, () -> headed.cases(0));
    }

    private static void lowestTerms() {
        CHECK.sentence("Terms 4", "ODDS of a CELL: of it by all, as a fraction in lowest terms.");
        SaltBells x = CHECK.with("flat 2 3;");
        x.search();
        odds(x, 0, 1, 6);
        x.stroke(0);
        odds(x, 0, 1, 3);
        odds(x, 2, 1, 6);
        odds(x, 4, 0, 1);
        x.stroke(0);
        odds(x, 1, 2, 3);
        odds(x, 3, 1, 3);
        odds(x, 0, 0, 1);
        x.seen(0, true, false);
        odds(x, 1, 1, 1);
        SaltBells all = CHECK.with("flat 10 10;");
        all.search();
        odds(all, 99, 1, 100);
        all.ring(0, 2);
        odds(all, 9, 1, 25);
        odds(all, 99, 0, 1);
    }

    private static void odds(SaltBells x, int cell, int upper, int lower) {
        due("odds(" + cell + ", 0)", upper, () -> x.odds(cell, 0));
        due("odds(" + cell + ", 1)", lower, () -> x.odds(cell, 1));
    }

    private static void anewAndAgain() {
        CHECK.sentence("Terms 4", "(SEARCH begins anew when told; UNDONE STROKES don't change it, those DONE AGAIN do, as done.)");
        SaltBells x = CHECK.with("flat 3 3;tower 0 0 9 0;");
        x.stroke(0);
        x.search();
        x.stroke(1);
        due("by a stroke", 6, () -> x.cases(-1));
        x.seen(0, true, true);
        int left = x.cases(-1);
        x.undo();
        x.undo();
        due("undone", left, () -> x.cases(-1));
        due("anew", 9, x::search);
        x.redo();
        due("a still one done again", 2, () -> x.cases(0));
        due("all are left", 9, () -> x.cases(-1));
        x.redo();
        due("done again", 9 - 2 - 1 - 2, () -> x.cases(-1));
        CHECK.due("none can be", false, x.redo());
        due("no change", 4, () -> x.cases(-1));
        due("anew", 9, x::search);
        x.stroke(0);
        due("heading north at first", 0, () -> x.cases(8));
        due("heading north at first", 2, () -> x.cases(2));
    }

    private static void search() {
        CHECK.sentence("Promise 16", "SEARCH begins: how many cases.");
        due("the least", 4, () -> CHECK.with("flat 2 2;").search());
        due("the most", 100, () -> CHECK.with("flat 10 10;").search());
        SaltBells x = new SaltBells();
        due("of a new object", 36, x::search);
        x.seen(0, true, false);
        due("once more", 36, x::search);
    }

    private static void seen() {
        CHECK.sentence("Promise 17", "SEEN in a column (line x, row false), a row (true), or NOT: how many cases are left; "
            + "NONE: no SEARCH.");
        SaltBells x = CHECK.with("flat 3 5;");
        due("no search", -1, () -> x.seen(0, false, false));
        due("no search", -1, () -> x.seen(4, true, true));
        x.stroke(0);
        due("no search by a stroke", -1, () -> x.seen(0, false, false));
        x.search();
        due("all but one column", 10, () -> x.seen(0, false, true));
        due("none is left", 0, () -> x.seen(0, false, false));
        due("none is no NONE", 0, () -> x.seen(1, false, true));

        CHECK.sentence("Promise 17", "NoSuchElementException: no such column, row.");
        SaltBells y = CHECK.with("flat 3 5;");
        for (int times = 0; times < 2; times++) {
            due("column 3", Check.NO_SUCH, () -> y.seen(3, false, false));
            due("column 4", Check.NO_SUCH, () -> y.seen(4, false, true));
            due("row 5", Check.NO_SUCH, () -> y.seen(5, true, false));
            for (int off : FAR_OFF) {
                due("column " + off, Check.NO_SUCH, () -> y.seen(off, false, true));
                due("row " + off, Check.NO_SUCH, () -> y.seen(off, true, true));
            }
            due("search", 15, y::search);
        }
        due("the last column", 5, () -> y.seen(2, false, false));
        due("the last row", 1, () -> y.seen(4, true, false));
    }

    private static void cases() {
        CHECK.sentence("Promise 18", "Cases in a CELL (NONE: all); NONE: no SEARCH.");
        SaltBells x = CHECK.with("flat 2 3;");
        due("no search", -1, () -> x.cases(0));
        due("no search", -1, () -> x.cases(5));
        due("no search", -1, () -> x.cases(-1));
        x.search();
        x.stroke(0);
        int[] cases = {2, 2, 1, 1, 0, 0};
        for (int cell = 0; cell < cases.length; cell++) {
            CHECK.same("cases(" + cell + ")", cases[cell], x.cases(cell));
        }
        due("all", 6, () -> x.cases(-1));

        CHECK.sentence("Promise 18", "NoSuchElementException: no such CELL.");
        SaltBells y = CHECK.with("flat 2 3;");
        for (int times = 0; times < 2; times++) {
            for (int cell : new int[] {6, 36, -2, Integer.MIN_VALUE, Integer.MAX_VALUE}) {
                due("cases(" + cell + ")", Check.NO_SUCH, () -> y.cases(cell));
            }
            due("search", 6, y::search);
        }
    }

    private static void odds() {
        CHECK.sentence("Promise 19", "the upper part (what 0), the lower one (1; 0 by 1 without cases); NONE: no SEARCH.");
        SaltBells x = CHECK.with("flat 2 3;");
        odds(x, 0, -1, -1);
        x.search();
        odds(x, 5, 1, 6);
        x.seen(0, true, false);
        odds(x, 5, 0, 1);
        odds(x, 1, 1, 2);
        x.seen(2, true, false);
        due("no cases", 0, () -> x.cases(-1));
        odds(x, 0, 0, 1);
        odds(x, 5, 0, 1);

        CHECK.sentence("Promise 19", "NoSuchElementException: also another what.");
        SaltBells y = CHECK.with("flat 2 3;");
        for (int times = 0; times < 2; times++) {
            due("what 2", Check.NO_SUCH, () -> y.odds(0, 2));
            due("cell 6", Check.NO_SUCH, () -> y.odds(6, 0));
            for (int off : FAR_OFF) {
                due("what " + off, Check.NO_SUCH, () -> y.odds(0, off));
                due("cell " + off, Check.NO_SUCH, () -> y.odds(off, 0));
            }
            due("search", 6, y::search);
        }
    }
}
