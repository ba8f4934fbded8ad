import java.math.BigInteger;
import java.util.HashMap;
import java.util.Map;
import java.util.function.LongSupplier;

/** Sentences with a boundary case, each with its test: for ever, nights, status and images (Terms 5), promises 23 to 26. */
public final class EdgeFateTest {
    private static final Check CHECK = new Check("edges of fates");
    private static final int[] FAR_OFF = {-1, Integer.MIN_VALUE, Integer.MAX_VALUE};
    private static final int[] SEEDS = {0, 1, -1, 65536, 12345, Integer.MAX_VALUE, Integer.MIN_VALUE};

    public static void main(String[] args) {
        asIfEnough();
        rings();
        ringsOfAStubbornOne();
        ringsByStrokes();
        draws();
        seeds();
        status();
        imageKeeps();
        imageOfAHundred();
        foreverNone();
        foreverWhat();
        nightStrokes();
        nightRefused();
        inPlaceOfAnother();
        restore();
        CHECK.end();
    }

    private static void due(String what, long want, LongSupplier call) {
        CHECK.due(what, want, call);
    }

    private static void ends(SaltBells x, int walker, int set, int how, int after) {
        due("forever(" + walker + ", " + set + ", 0)", how, () -> x.forever(walker, set, 0));
        due("forever(" + walker + ", " + set + ", 1)", after, () -> x.forever(walker, set, 1));
    }

    private static void asIfEnough() {
        CHECK.sentence("Terms 5", "FOR EVER: if a set were rung again and again (as if STROKES and WATER were enough), "
            + "how one WALKER ends: 1 in, 2 taken");
        SaltBells x = CHECK.with("flat 10 10;tower 0 0 20 0 strokes 1;tower 9 9 20 1 strokes 1 false;"
            + "plain 9 9 0;child 9 9 0;plain 0 0 0;camel 0 1 0;");
        ends(x, 0, 1, 1, 18);
        ends(x, 1, 1, 1, 36);
        ends(x, 2, 1, 1, 1);
        ends(x, 2, 2, 2, 18);
        ends(x, 0, 2, 2, 1);
        ends(x, 1, 2, 2, 2);
        ends(x, 3, 3, 1, 1);
        due("nothing is rung", 1, () -> x.tower(0, 3));
        CHECK.count(x, 7, 0);
        CHECK.walker(x, 0, 0, 99, 0, 0, 0, -1, 0);
        x.stroke(1);
        due("no stroke is left", 0, () -> x.tower(0, 3));
        SaltBells late = CHECK.with("tower 5 5 20 0 strokes 1;child 2 5 9;camel 0 5 0;");
        late.stroke(1);
        ends(late, 0, 1, 1, 5);
        ends(late, 1, 1, 1, 4);
    }

    private static void rings() {
        CHECK.sentence("Terms 5", "3 in a RING (he comes to be as he was, in CELL, HEADING, what he FOLLOWED, and as a child); "
            + "after how many STROKES he is so (a RING: how many from one time to the next).");
        SaltBells x = CHECK.with("flat 3 3;tower 2 2 1 0;plain 0 1 0;plain 0 0 9;child 0 1 0;camel 2 0 0;");
        ends(x, 0, 0, 3, 4);
        ends(x, 1, 0, 3, 4);
        ends(x, 2, 0, 3, 8);
        ends(x, 3, 0, 3, 4);
        SaltBells misled = CHECK.with("flat 2 2;tower 0 0 9 0;mirage 1 0;plain 1 0 0;child 1 0 0;camel 1 1 0;");
        ends(misled, 0, 1, 3, 1);
        ends(misled, 1, 1, 3, 2);
        ends(misled, 2, 1, 1, 2);
        SaltBells back = CHECK.with("flat 10 2;tower 0 0 20 0;mirage 3 0;plain 9 0 0;child 9 0 0;");
        ends(back, 0, 1, 3, 2);
        ends(back, 1, 1, 3, 4);
        SaltBells afraid = CHECK.with("tower 0 0 20 0;tower 5 5 20 0;fearful 3 3 0;");
        ends(afraid, 0, 3, 3, 1);
        ends(afraid, 0, 1, 1, 6);
    }

    /** By the same cell and heading, but another voice followed, the stubborn one takes another way the second time. */
    private static void ringsOfAStubbornOne() {
        CHECK.sentence("Terms 5", "what he FOLLOWED, and as a child");
        SaltBells x = CHECK.with("flat 8 8;tower 3 1 2 0;tower 3 7 2 1;tower 0 3 3 1;tower 5 4 1 2;mirage 3 3;mirage 3 5;"
            + "stubborn 3 4 9;plain 3 4 9;");
        x.stroke(0);
        CHECK.walker(x, 0, 1, 27, 8, 1, 0, -1, 1);
        ends(x, 0, 15, 1, 7);
        ends(x, 1, 15, 3, 4);
        SaltBells voice = CHECK.with("flat 10 2;tower 0 0 20 0;tower 9 0 20 1;mirage 3 0;mirage 3 1;stubborn 5 0 0;plain 5 0 0;");
        ends(voice, 0, 3, 1, 4);
        SaltBells lured = CHECK.with("flat 10 2;tower 0 0 20 0;tower 9 0 20 1;mirage 3 0;stubborn 6 0 9;plain 6 0 9;");
        lured.stroke(1);
        ends(lured, 0, 3, 3, 2);
        ends(lured, 1, 3, 1, 4);
    }

    /** From every cell of a small flat, by every kind and set: as the strokes themselves go, one by one. */
    private static void ringsByStrokes() {
        CHECK.sentence("Terms 5", "he comes to be as he was, in CELL, HEADING, what he FOLLOWED, and as a child");
        String flat = "flat 4 4;tower 1 1 2 0;tower 3 2 1 1;tower 0 3 3 1 false;mirage 2 1;mirage 1 2;mirage 0 1;";
        for (String kind : new String[] {"plain", "stubborn", "fearful", "child", "camel"}) {
            for (int start = 0; start < 16; start++) {
                for (int set = 0; set < 8; set++) {
                    SaltBells x = CHECK.with(flat + kind + " " + start % 4 + " " + start / 4 + " 99;");
                    x.stroke(start % 3);
                    if (x.walker(0, 4) == 0) {
                        int how = x.forever(0, set, 0);
                        int after = x.forever(0, set, 1);
                        String what = kind + " from " + start + " by " + set;
                        CHECK.same(what, endByStrokes(x, set), 1000 * how + after);
                    }
                }
            }
        }
    }

    /** How he ends and after how many strokes, as one number. */
    private static int endByStrokes(SaltBells x, int set) {
        Map<String, Integer> times = new HashMap<>();
        for (int time = 0; time < 90; time++) {
            int how = x.walker(0, 4);
            if (how != 0) {
                return 1000 * how + time;
            }
            String child = x.walker(0, 0) == 3 ? " " + x.walker(0, 6) % 2 : "";
            Integer before = times.put(x.walker(0, 1) + " " + x.walker(0, 3) + " " + x.walker(0, 5) + child, time);
            if (before != null) {
                return 3000 + time - before;
            }
            x.stroke(set);
        }
        return -1;
    }

    /** The draws of a seed by numbers that don't wrap: 32 bits are kept, and of these bits 16 to 30. */
    private static int[] drawn(int seed, int many) {
        BigInteger all = BigInteger.ONE.shiftLeft(32);
        BigInteger grown = BigInteger.valueOf(seed).mod(all);
        int[] draws = new int[many];
        for (int i = 0; i < many; i++) {
            grown = grown.multiply(BigInteger.valueOf(1103515245)).add(BigInteger.valueOf(12345)).mod(all);
            draws[i] = grown.shiftRight(16).mod(BigInteger.valueOf(32768)).mod(BigInteger.TWO).intValue();
        }
        return draws;
    }

    private static void draws() {
        CHECK.sentence("Terms 5", "NIGHTS by a seed: each STROKE a set is drawn: a DRAW of 2 for each TOWER, the least first "
            + "(1: it rings, if it can).");
        for (int seed : SEEDS) {
            SaltBells x = CHECK.with("tower 0 0 1 0 strokes 2;tower 1 0 1 0 strokes 99;tower 2 0 1 0 strokes 1;");
            int[] draws = drawn(seed, 60);
            int[] left = {2, 99, 1};
            for (int i = 0; i < draws.length; i++) {
                left[i % 3] -= left[i % 3] > 0 ? draws[i] : 0;
            }
            CHECK.same("night(" + seed + ", 20)", 0, x.night(seed, 20));
            for (int t = 0; t < left.length; t++) {
                CHECK.same("left of tower " + t + " by " + seed, left[t], x.tower(t, 3));
            }
            CHECK.count(x, 14, 0);
            CHECK.count(x, 7, 20);
        }
        SaltBells none = new SaltBells();
        CHECK.same("no towers", 0, none.night(7, 3));
        CHECK.count(none, 7, 3);
    }

    private static void seeds() {
        CHECK.sentence("Terms 5", "A seed becomes itself times 1103515245 and 12345 (an int that wraps); "
            + "a DRAW of n is its bits 16 to 30 MOD n then.");
        for (int seed : SEEDS) {
            int[] draws = drawn(seed, 100);
            SaltBells x = CHECK.with("tower 5 5 20 0;camel 0 0 0;");
            x.night(seed, 100);
            boolean in = false;
            for (int i = 0; i < draws.length; i++) {
                int due = in ? -3 : draws[i] == 1 ? 0 : -2;
                CHECK.same("why of stroke " + i + " by " + seed, due, x.why(0, i));
                in = in || x.count(9) == 1 && i + 1 == x.walker(0, 6);
            }
        }
    }

    private static void status() {
        CHECK.sentence("Terms 5", "STATUS: how many calls were refused: 0 TEXTS with a FAULT (of ORDERS, too), 1 STROKES that can't be.");
        SaltBells x = CHECK.with("tower 0 0 1 0 strokes 1;");
        status(x, 0, 0);
        Check.flat(x, "x");
        status(x, 1, 0);
        Check.orders(x, "x");
        status(x, 2, 0);
        x.stroke(2);
        status(x, 2, 1);
        x.ring(1, 200);
        status(x, 2, 2);
        Check.orders(x, "ring;ring 0;ring 0;");
        status(x, 2, 3);
        x.night(0, 100);
        x.best(4);
        x.worth(0, 4);
        x.undo();
        x.redo();
        due("a refused length", Check.ILLEGAL, () -> x.ring(9, 201));
        status(x, 2, 3);
    }

    private static void status(SaltBells x, int texts, int strokes) {
        CHECK.count(x, 13, texts);
        CHECK.count(x, 14, strokes);
    }

    /** Walkers, strokes left, what can be undone and done again, status, and why the last two turned. */
    private static int[] all(SaltBells x) {
        int[] all = new int[39];
        for (int i = 0; i < 28; i++) {
            all[i] = x.walker(i / 7, i % 7);
        }
        int[] counts = {7, 8, 9, 10, 11, 13, 14};
        for (int i = 0; i < counts.length; i++) {
            all[28 + i] = x.count(counts[i]);
        }
        all[35] = x.tower(0, 3);
        all[36] = x.tower(1, 3);
        all[37] = x.why(0, 0);
        all[38] = x.why(1, x.count(7) - 1);
        return all;
    }

    private static void same(String what, int[] want, int[] got) {
        for (int i = 0; i < want.length; i++) {
            CHECK.same(what + " [" + i + "]", want[i], got[i]);
        }
    }

    private static void imageKeeps() {
        CHECK.sentence("Terms 5", "AN IMAGE keeps WALKERS, STROKES left, what can be UNDONE and DONE AGAIN, STATUS (not SEARCH).");
        SaltBells x = CHECK.with("tower 0 0 9 0 strokes 9;tower 5 5 9 1 false;plain 2 0 9;child 3 3 9;stubborn 5 3 9;plain 0 5 1;");
        x.ring(3, 3);
        int[] later = all(x);
        x.undo();
        int[] now = all(x);
        x.search();
        x.image();
        x.night(1, 50);
        x.stroke(4);
        Check.orders(x, "x");
        int cases = x.cases(-1);
        CHECK.due("the search went on", true, cases < 36);
        for (int times = 0; times < 2; times++) {
            CHECK.due("restore", true, x.restore());
            same("as it was", now, all(x));
            due("the search is as it is", cases, () -> x.cases(-1));
            x.undo();
            x.stroke(2);
        }
        x.restore();
        CHECK.due("done again", true, x.redo());
        same("done again", later, all(x));
    }

    private static void imageOfAHundred() {
        CHECK.sentence("Terms 5", "what can be UNDONE and DONE AGAIN");
        SaltBells x = CHECK.with("tower 5 5 1 0;camel 0 0 0;");
        x.ring(0, 30);
        x.ring(1, 99);
        for (int i = 0; i < 20; i++) {
            x.undo();
        }
        x.image();
        x.ring(0, 200);
        x.restore();
        CHECK.count(x, 7, 80);
        CHECK.count(x, 8, 20);
        int undone = 0;
        while (undone < 200 && x.undo()) {
            undone++;
        }
        CHECK.same("undone", 80, undone);
        due("strokes that stay", 29, () -> x.walker(0, 6));
        due("all its strokes are left", 99, () -> x.tower(0, 3));
        x.redo();
        due("the first was still", 99, () -> x.tower(0, 3));
        x.redo();
        due("the second wasn't", 98, () -> x.tower(0, 3));
        int again = 2;
        while (again < 200 && x.redo()) {
            again++;
        }
        CHECK.same("done again", 100, again);
        due("strokes in all", 129, () -> x.walker(0, 6));
    }

    private static void foreverNone() {
        CHECK.sentence("Promise 23", "NONE: he isn't out, the set can't be (no such TOWER).");
        SaltBells x = CHECK.with("tower 0 0 20 0 strokes 1;tower 5 5 1 1 false;plain 0 0 9;plain 5 5 9;plain 3 3 0;camel 3 0 0;");
        for (int set : new int[] {4, 5, 8, 16, 32, -1, Integer.MIN_VALUE, Integer.MAX_VALUE}) {
            for (int w = 0; w < 4; w++) {
                ends(x, w, set, -1, -1);
            }
        }
        CHECK.count(x, 14, 0);
        x.stroke(2);
        x.stroke(1);
        int[] how = {1, 2, 3, 0};
        for (int w = 0; w < 4; w++) {
            CHECK.same("how " + w + " is", how[w], x.walker(w, 4));
        }
        for (int w = 0; w < 3; w++) {
            ends(x, w, 0, -1, -1);
            ends(x, w, 1, -1, -1);
        }
        due("it has no stroke left", 0, () -> x.tower(0, 3));
        ends(x, 3, 1, 1, 2);
        SaltBells none = CHECK.with("camel 3 3 0;");
        ends(none, 0, 0, 3, 4);
        ends(none, 0, 1, -1, -1);
    }

    private static void foreverWhat() {
        CHECK.sentence("Promise 23", "how (what 0), after how many STROKES (1).");
        SaltBells both = CHECK.with("tower 0 0 9 0;plain 2 0 9;plain 0 5 9;");
        ends(both, 0, 1, 1, 2);
        ends(both, 1, 0, 3, 4);

        CHECK.sentence("Promise 23", "NoSuchElementException: also another what.");
        SaltBells x = CHECK.with("tower 0 0 1 0;plain 0 0 9;");
        for (int times = 0; times < 2; times++) {
            due("what 2", Check.NO_SUCH, () -> x.forever(0, 1, 2));
            due("what 2 of a set that can't be", Check.NO_SUCH, () -> x.forever(0, 2, 2));
            due("walker 1", Check.NO_SUCH, () -> x.forever(1, 1, 0));
            due("walker 1 by a set that can't be", Check.NO_SUCH, () -> x.forever(1, 2, 0));
            for (int off : FAR_OFF) {
                due("what " + off, Check.NO_SUCH, () -> x.forever(0, 1, off));
                due("walker " + off, Check.NO_SUCH, () -> x.forever(off, 1, 0));
            }
            due("he comes in, once", 1 - times, () -> x.stroke(1));
        }
    }

    private static void nightStrokes() {
        CHECK.sentence("Promise 24", "NIGHTS: so many STROKES (0 to 100) by a seed: how many came in.");
        String flat = "flat 3 3;tower 0 0 9 0;tower 2 2 9 1 false;camel 0 1 0;camel 1 1 0;camel 1 0 0;camel 2 1 0;";
        for (int seed : SEEDS) {
            SaltBells x = CHECK.with(flat);
            x.stroke(0);
            x.undo();
            due("none", 0, () -> x.night(seed, 0));
            CHECK.count(x, 7, 0);
            CHECK.count(x, 8, 1);
            SaltBells y = CHECK.with(flat);
            int[] draws = drawn(seed, 200);
            int in = 0;
            for (int i = 0; i < 100; i++) {
                in += y.stroke(draws[2 * i] + 2 * draws[2 * i + 1]);
            }
            CHECK.same("a hundred by " + seed, in, x.night(seed, 100));
            CHECK.count(x, 7, 100);
            CHECK.count(x, 9, in);
            CHECK.count(x, 10, y.count(10));
            due("strokes left", y.tower(1, 3), () -> x.tower(1, 3));
            CHECK.due("undone", true, x.undo());
        }
        SaltBells home = CHECK.with("tower 0 0 1 0;tower 1 0 1 0;camel 0 0 0;camel 0 0 0;camel 1 0 0;camel 1 0 0;");
        int[] first = drawn(3, 2);
        due("one stroke", 2 * first[0] + 2 * first[1], () -> home.night(3, 1));
    }

    private static void nightRefused() {
        CHECK.sentence("Promise 24", "IllegalArgumentException: how many.");
        SaltBells x = CHECK.with("tower 0 0 1 0;camel 5 5 0;");
        due("night(1, 101)", Check.ILLEGAL, () -> x.night(1, 101));
        for (int off : FAR_OFF) {
            due("night(1, " + off + ")", Check.ILLEGAL, () -> x.night(1, off));
        }
        CHECK.count(x, 7, 0);
        due("nobody went", 0, () -> x.walker(0, 6));
    }

    private static void inPlaceOfAnother() {
        CHECK.sentence("Promise 25", "AN IMAGE is kept, in place of another one.");
        SaltBells x = CHECK.with("camel 5 5 0;");
        x.image();
        x.ring(0, 2);
        x.image();
        x.ring(0, 3);
        CHECK.due("restore", true, x.restore());
        due("the second one", 2, () -> x.walker(0, 6));
        x.undo();
        x.image();
        x.image();
        x.ring(0, 4);
        CHECK.due("restore", true, x.restore());
        due("the third one", 1, () -> x.walker(0, 6));
        CHECK.count(x, 8, 1);
    }

    private static void restore() {
        CHECK.sentence("Promise 26", "It is as the IMAGE again: true. False: there is none.");
        SaltBells x = new SaltBells();
        CHECK.due("of a new object", false, x.restore());
        x.stroke(0);
        x.stroke(1);
        CHECK.due("none is kept", false, x.restore());
        CHECK.count(x, 7, 1);
        CHECK.count(x, 14, 1);
        x.image();
        x.ring(0, 9);
        CHECK.due("one is kept", true, x.restore());
        CHECK.count(x, 7, 1);
        CHECK.due("it stays", true, x.restore());
        CHECK.same("a flat with a fault", 1, Check.flat(x, "x"));
        CHECK.due("it stays by a fault", true, x.restore());
        CHECK.count(x, 13, 0);
        CHECK.same("a flat", 0, Check.flat(x, ""));
        CHECK.due("it is gone by a flat", false, x.restore());
        CHECK.count(x, 7, 0);
    }
}
