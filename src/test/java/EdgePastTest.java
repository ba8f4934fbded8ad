import java.util.function.LongSupplier;

/** Sentences with a boundary case, each with its test: strokes undone (Terms 2), promises 7, 8 and 12 to 15. */
public final class EdgePastTest {
    private static final Check CHECK = new Check("edges of the past");
    private static final int[] FAR_OFF = {-1, Integer.MIN_VALUE, Integer.MAX_VALUE};

    public static void main(String[] args) {
        atMostAHundred();
        lastFirst();
        aNewOneForgets();
        towerWhat();
        walkerWhat();
        ringMany();
        ringRefused();
        undo();
        redo();
        whyWhich();
        whyNone();
        CHECK.end();
    }

    private static void due(String what, long want, LongSupplier call) {
        CHECK.due(what, want, call);
    }

    private static int undoAll(SaltBells x) {
        int undone = 0;
        while (undone < 1000 && x.undo()) {
            undone++;
        }
        return undone;
    }

    private static int redoAll(SaltBells x) {
        int again = 0;
        while (again < 1000 && x.redo()) {
            again++;
        }
        return again;
    }

    private static void atMostAHundred() {
        CHECK.sentence("Terms 2", "STROKES are UNDONE, the last first (at most 100 that were done last), and DONE AGAIN");
        for (int strokes : new int[] {0, 1, 99, 100, 101, 102, 200, 350}) {
            SaltBells x = CHECK.with("tower 5 5 1 0;camel 0 0 0;");
            for (int done = 0; done < strokes; done += 50) {
                x.ring(0, Math.min(50, strokes - done));
            }
            int can = Math.min(strokes, 100);
            CHECK.count(x, 7, can);
            CHECK.count(x, 8, 0);
            CHECK.same("undone of " + strokes, can, undoAll(x));
            CHECK.count(x, 7, 0);
            CHECK.count(x, 8, can);
            CHECK.same("strokes that stay", strokes - can, x.walker(0, 6));
            CHECK.same("done again of " + strokes, can, redoAll(x));
            CHECK.count(x, 7, can);
            CHECK.count(x, 8, 0);
            CHECK.same("strokes in all", strokes, x.walker(0, 6));
        }
        SaltBells again = CHECK.with("camel 0 0 0;");
        again.ring(0, 130);
        undoAll(again);
        redoAll(again);
        again.stroke(0);
        CHECK.count(again, 7, 100);
        CHECK.same("a hundred once more", 100, undoAll(again));
        CHECK.same("strokes that stay", 31, again.walker(0, 6));
    }

    private static void lastFirst() {
        CHECK.sentence("Terms 2", "the last first (at most 100 that were done last)");
        SaltBells x = CHECK.with("tower 0 0 1 0;tower 5 5 1 0;camel 2 2 0;");
        x.ring(1, 10);
        x.ring(2, 98);
        x.ring(1, 2);
        x.undo();
        due("the last", 99 - 11, () -> x.tower(0, 3));
        x.undo();
        due("ahead of the last", 99 - 10, () -> x.tower(0, 3));
        due("not yet", 99 - 98, () -> x.tower(1, 3));
        undoAll(x);
        due("all that can be", 99, () -> x.tower(1, 3));
        due("the eldest stay", 99 - 10, () -> x.tower(0, 3));
        x.redo();
        due("the eldest of those undone first", 98, () -> x.tower(1, 3));
    }

    private static void aNewOneForgets() {
        CHECK.sentence("Terms 2", "a new one forgets what could be.");
        SaltBells x = CHECK.with("tower 0 0 1 0;camel 2 2 0;");
        x.ring(1, 100);
        x.ring(0, 10);
        for (int i = 0; i < 10; i++) {
            x.undo();
        }
        CHECK.count(x, 8, 10);
        CHECK.same("a stroke that can't be", -1, x.stroke(2));
        CHECK.same("none of a ring", 0, x.ring(0, 0));
        CHECK.same("a ring that can't be", 0, x.ring(2, 9));
        CHECK.same("a night of none", 0, x.night(1, 0));
        CHECK.same("orders of none", 0, Check.orders(x, ""));
        CHECK.same("orders with a fault", -3, Check.orders(x, "ring;ring 1;"));
        x.best(2);
        x.forever(0, 0, 0);
        x.search();
        CHECK.count(x, 8, 10);
        CHECK.due("one is done again", true, x.redo());
        CHECK.same("a new one", 0, x.stroke(0));
        CHECK.count(x, 8, 0);
        CHECK.count(x, 7, 92);
        CHECK.due("none can be done again", false, x.redo());
        x.undo();
        x.ring(0, 1);
        CHECK.count(x, 8, 0);
        x.undo();
        x.night(1, 1);
        CHECK.count(x, 8, 0);
        x.undo();
        Check.orders(x, "ring;");
        CHECK.count(x, 8, 0);
    }

    private static void towerWhat() {
        CHECK.sentence("Promise 7", "0 its CELL, 1 RANGE, 2 VOICE, 3 STROKES left, 4 whether it is FALSE (1). "
            + "NoSuchElementException: no such TOWER (as everywhere), what.");
        SaltBells x = CHECK.with("flat 9 9;tower 8 8 20 3 strokes 1 false;tower 0 1 1 0;");
        int[][] all = {{80, 20, 3, 1, 1}, {9, 1, 0, 99, 0}};
        for (int t = 0; t < all.length; t++) {
            for (int what = 0; what < all[t].length; what++) {
                CHECK.same("tower(" + t + ", " + what + ")", all[t][what], x.tower(t, what));
            }
        }
        due("what 5", Check.NO_SUCH, () -> x.tower(0, 5));
        due("tower 2", Check.NO_SUCH, () -> x.tower(2, 0));
        for (int off : FAR_OFF) {
            due("tower(" + off + ", 0)", Check.NO_SUCH, () -> x.tower(off, 0));
            due("tower(0, " + off + ")", Check.NO_SUCH, () -> x.tower(0, off));
            due("far(" + off + ", 0)", Check.NO_SUCH, () -> x.far(off, 0));
            due("worth(" + off + ", 1)", Check.NO_SUCH, () -> x.worth(off, 1));
        }
        due("far(2, 0)", Check.NO_SUCH, () -> x.far(2, 0));
        due("worth(2, 1)", Check.NO_SUCH, () -> x.worth(2, 1));
    }

    private static void walkerWhat() {
        CHECK.sentence("Promise 8", "NoSuchElementException: no such WALKER (as everywhere), what.");
        SaltBells x = CHECK.with("tower 0 0 9 0;stubborn 5 5 99;camel 0 1 0;");
        x.stroke(1);
        due("what 7", Check.NO_SUCH, () -> x.walker(0, 7));
        due("walker 2", Check.NO_SUCH, () -> x.walker(2, 0));
        for (int off : FAR_OFF) {
            due("walker(" + off + ", 0)", Check.NO_SUCH, () -> x.walker(off, 0));
            due("walker(0, " + off + ")", Check.NO_SUCH, () -> x.walker(0, off));
            due("why(" + off + ", 0)", Check.NO_SUCH, () -> x.why(off, 0));
            due("forever(" + off + ", 0, 0)", Check.NO_SUCH, () -> x.forever(off, 0, 0));
        }
        due("why(2, 0)", Check.NO_SUCH, () -> x.why(2, 0));
        due("forever(2, 0, 0)", Check.NO_SUCH, () -> x.forever(2, 0, 0));

        CHECK.sentence("Promise 8", "0 KIND, 1 CELL, 2 WATER, 3 HEADING, 4 how he is (0 out, 1 in, 2 taken, 3 fallen)");
        SaltBells all = CHECK.with("tower 0 0 9 0;tower 5 5 1 0 false;plain 1 0 9;child 5 5 9;fearful 2 2 0;stubborn 0 5 99;");
        all.ring(3, 2);
        CHECK.walker(all, 0, 0, 0, 8, 3, 1);
        CHECK.walker(all, 1, 3, 35, 7, 0, 2);
        CHECK.walker(all, 2, 2, 14, 0, 0, 3);
        CHECK.walker(all, 3, 1, 18, 97, 0, 0);

        CHECK.sentence("Promise 8", "5 which TOWER he FOLLOWED last (NONE)");
        SaltBells y = CHECK.with("tower 0 0 9 0;tower 5 5 9 1;plain 3 3 9;");
        due("none yet", -1, () -> y.walker(0, 5));
        y.stroke(0);
        due("none yet", -1, () -> y.walker(0, 5));
        y.stroke(1);
        due("the first", 0, () -> y.walker(0, 5));
        y.stroke(0);
        due("still the first", 0, () -> y.walker(0, 5));
        y.stroke(2);
        due("the other", 1, () -> y.walker(0, 5));

        CHECK.sentence("Promise 8", "6 STROKES by which he was out (that by which he came in, was taken or FELL, too)");
        SaltBells z = CHECK.with("tower 0 0 9 0;tower 5 5 9 1 false;plain 2 0 9;plain 5 3 9;plain 3 3 1;camel 3 3 0;");
        z.ring(3, 2);
        for (int w = 0; w < 4; w++) {
            CHECK.same("two strokes of " + w, 2, z.walker(w, 6));
            CHECK.same("how " + w + " is", w == 3 ? 0 : w + 1, z.walker(w, 4));
        }
        z.ring(0, 3);
        for (int w = 0; w < 4; w++) {
            CHECK.same("five strokes of " + w, w == 3 ? 5 : 2, z.walker(w, 6));
        }
    }

    private static void ringMany() {
        CHECK.sentence("Promise 12", "Many STROKES of a set (0 to 200), till one can't be: how many were done.");
        SaltBells x = CHECK.with("tower 0 0 1 0 strokes 3;camel 5 5 0;tower 1 0 1 0;");
        due("none", 0, () -> x.ring(1, 0));
        due("none of a set that can't be", 0, () -> x.ring(4, 0));
        CHECK.count(x, 14, 0);
        due("one", 1, () -> x.ring(1, 1));
        due("as many as are left", 2, () -> x.ring(3, 2));
        CHECK.count(x, 14, 0);
        due("none is left", 0, () -> x.ring(1, 200));
        CHECK.count(x, 14, 1);
        due("as long as it has some", 97, () -> x.ring(2, 200));
        CHECK.count(x, 14, 2);
        due("two hundred", 200, () -> x.ring(0, 200));
        due("no such tower", 0, () -> x.ring(-1, 200));
        CHECK.count(x, 14, 3);
        due("strokes in all", 300, () -> x.walker(0, 6));
    }

    private static void ringRefused() {
        CHECK.sentence("Promise 12", "IllegalArgumentException: how many.");
        SaltBells x = CHECK.with("tower 0 0 1 0;camel 5 5 0;");
        for (int many : new int[] {201, -1, Integer.MIN_VALUE, Integer.MAX_VALUE}) {
            due("ring(1, " + many + ")", Check.ILLEGAL, () -> x.ring(1, many));
            due("ring(2, " + many + ")", Check.ILLEGAL, () -> x.ring(2, many));
        }
        CHECK.count(x, 7, 0);
        CHECK.count(x, 14, 0);
        due("nobody went", 0, () -> x.walker(0, 6));
    }

    private static void undo() {
        CHECK.sentence("Promise 13", "The last STROKE is UNDONE: true. False: none can be.");
        SaltBells x = CHECK.with("tower 0 0 9 0;plain 1 0 1;child 3 3 9;stubborn 2 2 9;plain 5 0 0;");
        CHECK.due("of a new flat", false, x.undo());
        due("one comes in", 1, () -> x.stroke(1));
        CHECK.due("the last", true, x.undo());
        CHECK.walker(x, 0, 0, 1, 1, 0, 0, -1, 0);
        CHECK.walker(x, 1, 3, 21, 9, 0, 0, -1, 0);
        CHECK.walker(x, 2, 1, 14, 9, 0, 0, -1, 0);
        CHECK.walker(x, 3, 0, 5, 0, 0, 0, -1, 0);
        CHECK.counts(x, 6, 6, 1, 4, 0, 0, 0, 0, 1, 0, 0, 0, 0, 0, 0);
        due("strokes left", 99, () -> x.tower(0, 3));
        CHECK.due("none is left", false, x.undo());
        CHECK.count(x, 8, 1);
        CHECK.due("of a new object", false, new SaltBells().undo());
    }

    private static void redo() {
        CHECK.sentence("Promise 14", "The one UNDONE last is DONE AGAIN: true. False: none can be.");
        SaltBells x = CHECK.with("tower 0 0 9 0;tower 5 5 9 1 strokes 1;plain 2 0 9;");
        CHECK.due("of a new flat", false, x.redo());
        x.stroke(1);
        CHECK.due("none was undone", false, x.redo());
        x.stroke(2);
        x.undo();
        x.undo();
        CHECK.due("the one undone last", true, x.redo());
        CHECK.walker(x, 0, 0, 1, 8, 3, 0, 0, 1);
        due("strokes left", 98, () -> x.tower(0, 3));
        due("strokes left", 1, () -> x.tower(1, 3));
        CHECK.due("the other one", true, x.redo());
        due("strokes left", 0, () -> x.tower(1, 3));
        due("why", 1, () -> x.why(0, 1));
        CHECK.due("no more", false, x.redo());
        CHECK.count(x, 7, 2);
        CHECK.count(x, 8, 0);
        CHECK.due("of a new object", false, new SaltBells().redo());
    }

    private static void whyWhich() {
        CHECK.sentence("Promise 15", "Which TOWER a WALKER FOLLOWED by the i-th STROKE that can be UNDONE (0 the eldest");
        SaltBells x = CHECK.with("tower 0 0 20 0;tower 5 5 20 1;tower 5 0 20 2;camel 2 3 0;");
        x.stroke(1);
        x.stroke(4);
        x.ring(0, 97);
        x.stroke(2);
        due("the eldest of 100", 0, () -> x.why(0, 0));
        due("the last of 100", 1, () -> x.why(0, 99));
        x.stroke(0);
        due("the eldest of 101", 2, () -> x.why(0, 0));
        due("the second", -2, () -> x.why(0, 1));
        due("the last but one", 1, () -> x.why(0, 98));
        x.undo();
        due("the eldest", 2, () -> x.why(0, 0));
        due("the last", 1, () -> x.why(0, 98));

        CHECK.sentence("Promise 15", "-2: he HEARD none or stayed; -3: he wasn't out, FELL or, a child, rested");
        SaltBells y = CHECK.with("tower 0 0 2 0;tower 1 1 2 0;plain 5 5 1;fearful 0 1 9;child 3 3 9;plain 0 0 9;");
        y.ring(3, 3);
        int[][] whys = {{-2, -3, -3}, {-2, -2, -2}, {-3, -2, -3}, {0, -3, -3}};
        for (int w = 0; w < whys.length; w++) {
            for (int i = 0; i < 3; i++) {
                CHECK.same("why(" + w + ", " + i + ")", whys[w][i], y.why(w, i));
            }
        }
    }

    private static void whyNone() {
        CHECK.sentence("Promise 15", "NoSuchElementException: also there is none.");
        SaltBells x = CHECK.with("tower 0 0 9 0;plain 2 0 9;");
        due("of no stroke", Check.NO_SUCH, () -> x.why(0, 0));
        x.ring(1, 2);
        due("the last", 0, () -> x.why(0, 1));
        due("one beyond", Check.NO_SUCH, () -> x.why(0, 2));
        for (int off : FAR_OFF) {
            due("why(0, " + off + ")", Check.NO_SUCH, () -> x.why(0, off));
        }
        x.undo();
        due("one that is undone", Check.NO_SUCH, () -> x.why(0, 1));
        x.redo();
        due("done again", 0, () -> x.why(0, 1));
        x.ring(0, 200);
        due("the hundredth", -3, () -> x.why(0, 99));
        due("beyond a hundred", Check.NO_SUCH, () -> x.why(0, 100));
        SaltBells none = new SaltBells();
        none.stroke(0);
        due("of no walker", Check.NO_SUCH, () -> none.why(0, 0));
    }
}
