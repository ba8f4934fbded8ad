import java.util.function.LongSupplier;

/** Sentences with a boundary case, each with its test: an object's calls, promises 1, 2, 3, 5 and 6. */
public final class EdgeTapeTest {
    private static final Check CHECK = new Check("edges of the tape");
    private static final int[] FAR_OFF = {-1, Integer.MIN_VALUE, Integer.MAX_VALUE};

    public static void main(String[] args) {
        callsOfAnObject();
        none();
        newObject();
        feed();
        flatAnew();
        flatWithAFault();
        flatRefused();
        placeOfAFault();
        counts();
        CHECK.end();
    }

    private static void due(String what, long want, LongSupplier call) {
        CHECK.due(what, want, call);
    }

    private static void callsOfAnObject() {
        CHECK.sentence("What it is", "An object is used for at most 512 calls after it has been made");
        SaltBells x = CHECK.with("camel 5 5 0;tower 0 0 1 0;");
        int strokes = 0;
        for (int call = 4; call <= 510; call++) {
            strokes += x.ring(0, 200);
        }
        CHECK.same("strokes of 507 calls", 507 * 200, strokes);
        due("the 511th call", 507 * 200, () -> x.walker(0, 6));
        due("the 512th call", 0, () -> x.stroke(1));
    }

    private static void newObject() {
        CHECK.sentence("Promise 1", "6 by 6 CELLS, nothing in them.");
        SaltBells x = new SaltBells();
        CHECK.counts(x, 6, 6, 0, 0, 0, 0, 0, 0, 0, 0, 0, 0, 0, 0, 0);
        for (int cell = 0; cell < 36; cell++) {
            CHECK.same("heard(" + cell + ")", 0, x.heard(cell));
        }
        due("heard(36)", Check.NO_SUCH, () -> x.heard(36));
        due("tower(0, 0)", Check.NO_SUCH, () -> x.tower(0, 0));
        due("walker(0, 0)", Check.NO_SUCH, () -> x.walker(0, 0));
        x.search();
        due("a stroke of none", 0, () -> x.stroke(0));
        due("nothing is heard, nothing misleads", 2, () -> x.cases(5));
    }

    private static void none() {
        CHECK.sentence("Terms 5", "`NONE = -1`: There is none.");
        CHECK.same("NONE", -1, SaltBells.NONE);
    }

    private static void feed() {
        CHECK.sentence("Promise 2", "Twenty bytes come behind the tape, of each number the highest first: how many it has");
        SaltBells x = new SaltBells();
        due("the first", 20, () -> x.feed(0x6D697261, 0x67652033, 0x2033203B, 0x746F7765, 0x72203020));
        due("behind it", 40, () -> x.feed(0x30203620, 0x333B7769, 0x6E642077, 0x65737420, 0x333BFF80));
        due("two bytes that are no tokens", 1, () -> x.flat(40));
        due("the place of the first of them", 38, x::fault);

        CHECK.sentence("Promise 2", "NONE, and none come, if it would have more than 500.");
        SaltBells full = new SaltBells();
        Check.feed(full, " ".repeat(460));
        due("the 24th", 480, () -> full.feed(0x20202020, 0x20202020, 0x20202020, 0x20202020, 0x20202020));
        due("the 25th", 500, () -> full.feed(0x20202020, 0x20202020, 0x20202020, 0x6E696768, 0x7420393B));
        due("the 26th", -1, () -> full.feed(0, 0, 0, 0, 0));
        due("the 27th", -1, () -> full.feed(0x20202020, 0x20202020, 0x20202020, 0x20202020, 0x20202020));
        CHECK.count(full, 12, 500);
        due("none came", 0, () -> full.flat(500));
        CHECK.count(full, 6, 9);
        due("it is empty then", 20, () -> full.feed(0, 0, 0, 0, 0));
    }

    private static void flatAnew() {
        CHECK.sentence("Promise 3", "The tape's first n bytes (it is empty then) are a FLAT, all anew: 0");
        SaltBells x = new SaltBells();
        Check.feed(x, "night 5;}}");
        due("flat(8)", 0, () -> x.flat(8));
        CHECK.count(x, 12, 0);
        CHECK.count(x, 6, 5);
        due("what was behind is gone", Check.ILLEGAL, () -> x.flat(1));
        Check.feed(x, "night 12;");
        due("a number cut off", 1, () -> x.flat(7));
        due("its place", 7, x::fault);
        Check.feed(x, "night 1;nights 1;");
        due("a word cut off", 4, () -> x.flat(13));
        due("its place", 8, x::fault);
        due("flat(0) of an empty tape", 0, () -> x.flat(0));
        CHECK.count(x, 6, 0);
        Check.feed(x, "}}");
        due("flat(0) of a tape", 0, () -> x.flat(0));
        CHECK.count(x, 12, 0);
        anewBehindAnother();

        CHECK.sentence("Promise 3", "SEARCH, THE BEST, the image are gone.");
        SaltBells rich = searchedPlannedAndKept();
        CHECK.same("a flat", 0, Check.flat(rich, "tower 2 3 4 0;plain 5 3 9;"));
        due("no search", -1, () -> rich.cases(-1));
        due("no search", -1, () -> rich.seen(0, true, true));
        due("no search", -1, () -> rich.odds(0, 1));
        due("no best", Check.NO_SUCH, () -> rich.plan(0));
        CHECK.due("no image", false, rich.restore());
    }

    /** Nothing of the first flat is left in the second one. */
    private static void anewBehindAnother() {
        SaltBells x = CHECK.with("flat 7 7;tower 0 0 9 0;tower 6 6 9 0 false;night 2;wind east 3;mirage 1 1;mirage 0 0;"
            + "plain 1 0 9;plain 5 6 9;plain 3 3 0;camel 4 0 0;");
        x.ring(1, 1);
        x.ring(2, 3);
        x.undo();
        int[] before = {1, 2, 3, 0};
        for (int w = 0; w < before.length; w++) {
            CHECK.same("how " + w + " was", before[w], x.walker(w, 4));
        }
        CHECK.same("all anew", 0, Check.flat(x, "mirage 0 0;tower 0 0 20 0;tower 5 5 20 1;fearful 1 1 9;stubborn 1 2 9;"));
        CHECK.counts(x, 6, 6, 2, 2, 0, 0, 0, 0, 0, 0, 0, 0, 0, 0, 0);
        CHECK.walker(x, 0, 2, 7, 9, 0, 0, -1, 0);
        CHECK.walker(x, 1, 1, 13, 9, 0, 0, -1, 0);
        due("strokes left", 99, () -> x.tower(0, 3));
        due("it isn't false", 0, () -> x.tower(1, 4));
        due("no stroke", Check.NO_SUCH, () -> x.why(0, 0));
        x.stroke(3);
        due("by no voice of another flat, and no mirage", 6, () -> x.walker(0, 1));
        due("why", 0, () -> x.why(0, 0));
        CHECK.same("a third flat", 0, Check.flat(x, "mirage 1 1;tower 0 0 20 0;plain 0 0 9;"));
        due("in", 1, () -> x.stroke(1));
        CHECK.same("a fourth flat", 0, Check.flat(x, "plain 0 0 9;"));
        CHECK.walker(x, 0, 0, 0, 9, 0, 0, -1, 0);
        CHECK.counts(x, 6, 6, 0, 1, 0, 0, 0, 0, 0, 0, 0, 0, 0, 0, 0);
    }

    private static SaltBells searchedPlannedAndKept() {
        SaltBells x = CHECK.with("tower 2 3 4 0;plain 5 3 9;");
        x.search();
        CHECK.same("best(3)", 1, x.best(3));
        x.stroke(2);
        x.image();
        x.stroke(1);
        x.stroke(0);
        x.undo();
        return x;
    }

    private static void flatWithAFault() {
        CHECK.sentence("Promise 3", "or the FAULT (all stays, but STATUS)");
        SaltBells x = searchedPlannedAndKept();
        int cases = x.cases(-1);
        CHECK.same("a flat with a fault", 3, Check.flat(x, "night 3;wind west 3;mirage 5 3;tower 0 0 1 0;child 0 0 0;flat"));
        CHECK.counts(x, 6, 6, 1, 1, 0, 0, 0, 1, 1, 0, 0, 0, 0, 1, 1);
        CHECK.walker(x, 0, 0, 22, 8, 3, 0, 0, 1);
        due("the tower", 20, () -> x.tower(0, 0));
        due("its range", 4, () -> x.tower(0, 1));
        due("its strokes", 98, () -> x.tower(0, 3));
        due("no wind", 12, () -> x.far(0, 23));
        due("search", cases, () -> x.cases(-1));
        due("the best", 1, () -> x.plan(2));
        due("why", 0, () -> x.why(0, 0));
        CHECK.due("what can be done again", true, x.redo());
        CHECK.due("the image", true, x.restore());
        due("as it was", 23, () -> x.walker(0, 1));
        CHECK.count(x, 13, 0);
        SaltBells size = CHECK.with("flat 9 4;");
        CHECK.same("a fault behind a size", 2, Check.flat(size, "flat 3 3;night 10;"));
        CHECK.count(size, 0, 9);
        CHECK.count(size, 1, 4);
        CHECK.same("and another one", 1, Check.flat(size, "x"));
        CHECK.count(size, 13, 2);
    }

    private static void flatRefused() {
        CHECK.sentence("Promise 3", "IllegalArgumentException: the tape has not so many, n below 0 (nothing changes).");
        SaltBells x = searchedPlannedAndKept();
        CHECK.same("a fault", 1, Check.flat(x, "night;"));
        Check.feed(x, "night 3;");
        for (int n : FAR_OFF) {
            due("flat(" + n + ")", Check.ILLEGAL, () -> x.flat(n));
        }
        due("flat(21)", Check.ILLEGAL, () -> x.flat(21));
        CHECK.count(x, 12, 20);
        CHECK.count(x, 13, 1);
        CHECK.count(x, 7, 1);
        due("the place stays", 5, x::fault);
        due("search", 31, () -> x.cases(-1));
        due("the best", 1, () -> x.plan(2));
        CHECK.due("the image", true, x.restore());
        due("all that it has", 0, () -> x.flat(20));
        CHECK.count(x, 6, 3);
        SaltBells empty = new SaltBells();
        due("flat(1) of no tape", Check.ILLEGAL, () -> empty.flat(1));
        due("flat(-1) of no tape", Check.ILLEGAL, () -> empty.flat(-1));
    }

    private static void placeOfAFault() {
        CHECK.sentence("Promise 5", "The place of the latest flat()'s, orders()'s FAULT; NONE without.");
        SaltBells x = new SaltBells();
        due("of a new object", -1, x::fault);
        CHECK.same("a flat with a fault", 2, Check.flat(x, "night 10;"));
        due("of the flat", 6, x::fault);
        due("a refused call", Check.ILLEGAL, () -> x.flat(1));
        due("still of the flat", 6, x::fault);
        CHECK.same("orders", 1, Check.orders(x, "ring;"));
        due("of the orders", -1, x::fault);
        CHECK.same("orders with a fault", -2, Check.orders(x, "ring;;"));
        due("of the orders with a fault", 5, x::fault);
        due("a refused call", Check.ILLEGAL, () -> x.orders(-1));
        x.stroke(9);
        due("still of the orders", 5, x::fault);
        CHECK.same("a flat", 0, Check.flat(x, ""));
        due("of a flat", -1, x::fault);
        CHECK.same("a fault at the first byte", 1, Check.flat(x, "x"));
        due("its place", 0, x::fault);
        CHECK.same("orders of none", 0, Check.orders(x, ""));
        due("without", -1, x::fault);
    }

    private static void counts() {
        CHECK.sentence("Promise 6", "NoSuchElementException: another what.");
        SaltBells x = searchedPlannedAndKept();
        for (int what : FAR_OFF) {
            due("count(" + what + ")", Check.NO_SUCH, () -> x.count(what));
        }
        due("count(15)", Check.NO_SUCH, () -> x.count(15));
        due("count(16)", Check.NO_SUCH, () -> x.count(16));

        CHECK.sentence("Promise 6", "0 W, 1 H, 2 TOWERS, 3 WALKERS, 4 WIND, 5 STRENGTH, 6 NIGHT, 7 STROKES that can be UNDONE, "
            + "8 DONE AGAIN, 9 who are in, 10 taken, 11 fallen, 12 bytes of the tape, 13, 14 STATUS 0, 1");
        SaltBells all = CHECK.with("tower 0 0 1 0;tower 5 5 1 1 false;plain 0 0 1;plain 5 5 1;plain 3 3 0;camel 2 3 0;");
        CHECK.same("a fault", -2, Check.orders(all, "x"));
        CHECK.same("another fault", 1, Check.flat(all, "x"));
        all.stroke(4);
        all.ring(0, 4);
        for (int i = 0; i < 4; i++) {
            all.undo();
        }
        all.stroke(3);
        all.ring(0, 3);
        all.undo();
        all.feed(0, 0, 0, 0, 0);
        CHECK.counts(all, 6, 6, 2, 4, 0, 0, 0, 3, 1, 1, 1, 1, 20, 2, 1);
    }
}
