import java.util.function.LongSupplier;

/** Promises 23 to 26: for ever, nights by a seed, images. */
public final class FateTest {
    private static final Check CHECK = new Check("fates");

    public static void main(String[] args) {
        foreverNone();
        foreverIn();
        foreverRings();
        foreverByStrokes();
        nights();
        nightsOfSilentTowers();
        images();
        imageOfALongPast();
        CHECK.end();
    }

    private static void due(String what, long want, LongSupplier call) {
        CHECK.due(what, want, call);
    }

    private static void ends(SaltBells x, int walker, int set, int how, int after) {
        due("forever(" + walker + ", " + set + ", 0)", how, () -> x.forever(walker, set, 0));
        due("forever(" + walker + ", " + set + ", 1)", after, () -> x.forever(walker, set, 1));
    }

    private static void foreverNone() {
        SaltBells x = CHECK.with("tower 0 0 9 0;tower 5 5 9 0 false;plain 0 0 9;plain 5 5 9;plain 3 3 0;");
        due("forever(3, 0, 0)", Check.NO_SUCH, () -> x.forever(3, 0, 0));
        due("forever(-1, 0, 0)", Check.NO_SUCH, () -> x.forever(-1, 0, 0));
        due("forever(0, 0, 2)", Check.NO_SUCH, () -> x.forever(0, 0, 2));
        due("forever(0, 0, -1)", Check.NO_SUCH, () -> x.forever(0, 0, -1));
        due("forever(0, 9, 2)", Check.NO_SUCH, () -> x.forever(0, 9, 2));
        for (int set : new int[] {4, 5, 32, -1, Integer.MIN_VALUE}) {
            ends(x, 0, set, -1, -1);
        }
        due("no stroke was refused", 0, () -> x.count(14));
        x.stroke(3);
        ends(x, 0, 1, -1, -1);
        ends(x, 1, 1, -1, -1);
        ends(x, 2, 1, -1, -1);
    }

    private static void foreverIn() {
        SaltBells x = CHECK.with("tower 0 0 20 0 strokes 1;tower 5 5 20 1 false;plain 3 0 0;child 3 0 0;plain 0 0 1;camel 5 4 0;");
        ends(x, 0, 1, 1, 3);
        ends(x, 1, 1, 1, 6);
        ends(x, 2, 1, 1, 1);
        ends(x, 3, 2, 2, 1);
        ends(x, 0, 2, 2, 7);
        x.stroke(0);
        due("nothing was done by it", 1, () -> x.tower(0, 3));
        x.stroke(1);
        ends(x, 3, 1, 1, 7);
    }

    private static void foreverRings() {
        SaltBells x = CHECK.with("tower 2 2 1 0;tower 2 3 1 0;plain 5 5 9;child 5 5 9;fearful 2 4 9;plain 0 2 9;");
        ends(x, 0, 0, 3, 4);
        ends(x, 1, 0, 3, 8);
        ends(x, 2, 3, 1, 1);
        ends(x, 3, 1, 1, 4);
        SaltBells afraid = CHECK.with("tower 2 2 9 0;tower 2 3 9 0;fearful 2 4 9;");
        ends(afraid, 0, 3, 3, 1);
        SaltBells misled = CHECK.with("flat 4 2;tower 0 0 20 0;mirage 2 0;plain 3 0 9;mirage 2 1;child 3 1 9;");
        ends(misled, 0, 1, 3, 2);
        ends(misled, 1, 1, 3, 4);
        SaltBells corner = CHECK.with("flat 2 2;tower 0 0 20 0;mirage 1 0;plain 1 0 9;");
        ends(corner, 0, 1, 3, 1);
    }

    private static void foreverByStrokes() {
        SaltBells x = CHECK.with("tower 1 1 3 0;tower 4 3 2 1 false;tower 5 0 4 1;mirage 3 2;mirage 1 3;"
            + "stubborn 3 3 99;child 0 5 99;fearful 4 1 99;plain 5 5 99;");
        for (int walker = 0; walker < 4; walker++) {
            for (int set = 0; set < 8; set++) {
                int how = x.forever(walker, set, 0);
                int after = x.forever(walker, set, 1);
                int done = x.ring(set, how == 3 ? 30 : after);
                int[] there = {x.walker(walker, 1), x.walker(walker, 3), x.walker(walker, 5)};
                if (how != 3) {
                    CHECK.same("how he is", how, x.walker(walker, 4));
                    CHECK.same("by how many strokes", after, x.walker(walker, 6));
                } else {
                    done += x.ring(set, after);
                    CHECK.same("in a ring, cell", there[0], x.walker(walker, 1));
                    CHECK.same("in a ring, heading", there[1], x.walker(walker, 3));
                    CHECK.same("in a ring, followed", there[2], x.walker(walker, 5));
                    CHECK.same("in a ring, out", 0, x.walker(walker, 4));
                }
                for (int i = 0; i < done; i++) {
                    x.undo();
                }
            }
        }
    }

    private static void nights() {
        SaltBells x = CHECK.with("tower 0 0 20 0;tower 5 5 20 1;plain 2 2 99;plain 3 1 99;child 4 4 99;camel 1 5 0;");
        SaltBells y = CHECK.with("tower 0 0 20 0;tower 5 5 20 1;plain 2 2 99;plain 3 1 99;child 4 4 99;camel 1 5 0;");
        due("night(0, -1)", Check.ILLEGAL, () -> x.night(0, -1));
        due("night(0, 101)", Check.ILLEGAL, () -> x.night(0, 101));
        due("night(7, 0)", 0, () -> x.night(7, 0));
        due("nothing was done", 0, () -> x.count(7));
        for (int seed : new int[] {0, 1, -1, 12345, Integer.MIN_VALUE, Integer.MAX_VALUE}) {
            int in = 0;
            int grown = seed;
            for (int i = 0; i < 10; i++) {
                int set = 0;
                for (int t = 0; t < 2; t++) {
                    grown = (int) (grown * 1103515245L + 12345L);
                    set += ((grown & 0x7fffffff) / 65536 % 2) << t;
                }
                in += y.stroke(set);
            }
            int came = in;
            due("night(" + seed + ", 10)", came, () -> x.night(seed, 10));
            for (int i = 0; i < 10; i++) {
                for (int w = 0; w < 4; w++) {
                    CHECK.same("why", y.why(w, i), x.why(w, i));
                }
            }
            CHECK.same("left", y.tower(0, 3), x.tower(0, 3));
            CHECK.same("left", y.tower(1, 3), x.tower(1, 3));
            for (int i = 0; i < 10; i++) {
                CHECK.due("undo", true, x.undo());
                y.undo();
            }
        }
        due("a hundred", 100, () -> {
            x.night(3, 100);
            return x.count(7);
        });
    }

    private static void nightsOfSilentTowers() {
        SaltBells x = CHECK.with("tower 0 0 1 0 strokes 2;tower 5 5 1 1;");
        due("nobody came", 0, () -> x.night(5, 100));
        due("it rang as long as it could", 0, () -> x.tower(0, 3));
        due("no stroke was refused", 0, () -> x.count(14));
        due("all strokes were done", 100, () -> x.count(7));
    }

    private static void images() {
        SaltBells x = CHECK.with("tower 0 0 20 0;tower 5 5 20 1;plain 2 2 99;stubborn 4 1 99;");
        CHECK.due("restore without", false, x.restore());
        x.ring(1, 3);
        x.undo();
        x.stroke(9);
        Check.orders(x, "x");
        x.image();
        int[] before = all(x);
        x.stroke(9);
        Check.orders(x, "y");
        x.night(1, 50);
        x.best(1);
        CHECK.due("restore", true, x.restore());
        compare(before, all(x));
        due("the best stays", 0, () -> x.plan(0));
        due("the fault's place stays", 0, x::fault);
        due("done again", 1, () -> x.redo() ? 1 : 0);
        due("done again: all", 0, () -> x.count(8));
        x.ring(2, 120);
        CHECK.due("restore once more", true, x.restore());
        compare(before, all(x));
        x.undo();
        x.image();
        int[] later = all(x);
        x.undo();
        CHECK.due("restore another", true, x.restore());
        compare(later, all(x));
        due("why", 0, () -> x.why(0, 0));
        due("the tape is as it was", 20, () -> x.feed(0, 0, 0, 0, 0));
        x.restore();
        due("the tape is not in it", 20, () -> x.count(12));
    }

    private static void imageOfALongPast() {
        SaltBells x = CHECK.with("tower 5 5 1 0;camel 0 0 0;");
        x.ring(0, 50);
        x.ring(1, 70);
        x.image();
        x.ring(0, 45);
        x.restore();
        due("the eldest", -2, () -> x.why(0, 0));
        for (int i = 0; i < 70; i++) {
            x.undo();
        }
        due("as it was before the bell rang", 99, () -> x.tower(0, 3));
        due("strokes", 50, () -> x.walker(0, 6));
        x.undo();
        due("before that it was still", 99, () -> x.tower(0, 3));
    }

    private static int[] all(SaltBells x) {
        int[] all = new int[24];
        for (int what = 0; what < 7; what++) {
            all[what] = x.walker(0, what);
            all[7 + what] = x.walker(1, what);
        }
        int[] counts = {7, 8, 9, 10, 11, 13, 14};
        for (int i = 0; i < counts.length; i++) {
            all[14 + i] = x.count(counts[i]);
        }
        all[21] = x.tower(0, 3);
        all[22] = x.tower(1, 3);
        all[23] = x.why(0, x.count(7) - 1);
        return all;
    }

    private static void compare(int[] want, int[] got) {
        for (int i = 0; i < want.length; i++) {
            CHECK.same("restored [" + i + "]", want[i], got[i]);
        }
    }
}
