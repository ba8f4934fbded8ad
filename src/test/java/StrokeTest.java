import java.util.function.LongSupplier;

/** Promises 7 to 15: towers, walkers, what is heard, strokes, undone and done again, why one turned. */
public final class StrokeTest {
    private static final Check CHECK = new Check("strokes");

    public static void main(String[] args) {
        wrongArguments();
        windAndNight();
        whoIsFollowed();
        steps();
        mirages();
        rings();
        waterAndRest();
        stubborn();
        fearful();
        inAndTaken();
        whatCannotBe();
        undoing();
        longPast();
        CHECK.end();
    }

    private static void due(String what, long want, LongSupplier call) {
        CHECK.due(what, want, call);
    }

    private static void wrongArguments() {
        SaltBells x = CHECK.with("tower 2 3 4 0;plain 5 3 9;");
        x.stroke(1);
        for (int i : new int[] {-1, 1, Integer.MAX_VALUE, Integer.MIN_VALUE}) {
            due("tower(" + i + ", 0)", Check.NO_SUCH, () -> x.tower(i, 0));
            due("walker(" + i + ", 0)", Check.NO_SUCH, () -> x.walker(i, 0));
            due("far(" + i + ", 0)", Check.NO_SUCH, () -> x.far(i, 0));
            due("why(" + i + ", 0)", Check.NO_SUCH, () -> x.why(i, 0));
            due("why(0, " + i + ")", Check.NO_SUCH, () -> x.why(0, i));
        }
        for (int i : new int[] {-1, 36, Integer.MAX_VALUE, Integer.MIN_VALUE}) {
            due("far(0, " + i + ")", Check.NO_SUCH, () -> x.far(0, i));
            due("heard(" + i + ")", Check.NO_SUCH, () -> x.heard(i));
        }
        due("tower(0, 5)", Check.NO_SUCH, () -> x.tower(0, 5));
        due("tower(0, -1)", Check.NO_SUCH, () -> x.tower(0, -1));
        due("walker(0, 7)", Check.NO_SUCH, () -> x.walker(0, 7));
        due("walker(0, -1)", Check.NO_SUCH, () -> x.walker(0, -1));
        due("ring(0, -1)", Check.ILLEGAL, () -> x.ring(0, -1));
        due("ring(0, 201)", Check.ILLEGAL, () -> x.ring(0, 201));
        due("ring(-1, 201)", Check.ILLEGAL, () -> x.ring(-1, 201));
        due("none of these was done", 1, () -> x.count(7));
        due("none of these was a stroke", 0, () -> x.count(14));
    }

    private static void windAndNight() {
        SaltBells north = CHECK.with("wind north 3;tower 3 3 2 0;");
        due("far north", 2, () -> north.far(0, 3 + 6));
        due("far south", 14, () -> north.far(0, 3 + 30));
        due("far east", 4, () -> north.far(0, 4 + 18));
        due("far aside", 4 * 3 - 3, () -> north.far(0, 1 + 12));
        due("heard north", 1, () -> north.heard(3));
        due("heard south", 1, () -> north.heard(3 + 24));
        due("not heard south", 0, () -> north.heard(3 + 30));
        SaltBells west = CHECK.with("flat 10 3;wind west 1;tower 5 1 1 0;");
        due("far west", 15, () -> west.far(0, 10));
        due("far east", 20, () -> west.far(0, 19));
        due("heard", 1, () -> west.heard(14));
        due("not heard", 0, () -> west.heard(16));
        SaltBells south = CHECK.with("wind south 2;tower 3 3 2 0;night 1;");
        due("far south", 4, () -> south.far(0, 3 + 30));
        due("far north", 18, () -> south.far(0, 3));
        due("heard at night", 1, () -> south.heard(3 + 6));
        due("not heard at night", 0, () -> south.heard(3));
        SaltBells all = CHECK.with("flat 10 10;tower 0 0 18 0 strokes 1;tower 9 9 17 0;tower 5 5 1 3 false;");
        due("bits of those heard", 0b01, () -> all.heard(0));
        due("bits of those heard", 0b111, () -> all.heard(55));
        all.stroke(1);
        due("heard if all ring, strokes left or not", 0b111, () -> all.heard(55));
        due("heard in the furthest corner", 0b11, () -> all.heard(99));
    }

    private static void whoIsFollowed() {
        SaltBells x = CHECK.with("tower 5 0 9 0;tower 0 0 9 1;tower 2 5 9 2;plain 2 0 9;plain 3 0 9;camel 2 1 0;");
        due("stroke of all", 0, () -> x.stroke(7));
        CHECK.walker(x, 0, 0, 1, 8, 3, 0, 1, 1);
        CHECK.walker(x, 1, 0, 4, 8, 1, 0, 0, 1);
        due("the nearest one", 1, () -> x.walker(2, 5));
        SaltBells like = CHECK.with("tower 5 0 9 0;tower 1 0 9 1;plain 3 0 9;");
        like.stroke(2);
        like.undo();
        due("of like ones the least", 0, () -> {
            like.stroke(3);
            return like.walker(0, 5);
        });
        SaltBells windy = CHECK.with("wind east 3;tower 5 0 9 0;tower 0 0 9 1;plain 3 0 9;");
        windy.stroke(3);
        due("the least far by the wind", 1, () -> windy.walker(0, 5));
        due("not heard: not followed", -2, () -> {
            SaltBells small = CHECK.with("tower 0 0 1 0;plain 2 0 9;");
            small.stroke(1);
            return small.why(0, 0);
        });
    }

    private static void steps() {
        SaltBells x = CHECK.with("tower 3 3 20 0;plain 1 1 9;plain 5 5 9;plain 3 0 9;plain 4 1 9;");
        x.stroke(1);
        CHECK.walker(x, 0, 0, 2 + 6, 8, 1);
        CHECK.walker(x, 1, 0, 4 + 30, 8, 3);
        CHECK.walker(x, 2, 0, 3 + 6, 8, 2);
        CHECK.walker(x, 3, 0, 4 + 12, 8, 2);
        x.stroke(1);
        CHECK.walker(x, 0, 0, 2 + 12, 7, 2);
        CHECK.walker(x, 1, 0, 4 + 24, 7, 0);
    }

    private static void mirages() {
        String text = "tower 3 3 20 0;mirage 1 1;mirage 3 0;mirage 4 5;plain 1 1 9;plain 3 0 9;plain 4 5 9;plain 0 5 9;mirage 0 5;";
        SaltBells day = CHECK.with(text);
        day.stroke(1);
        CHECK.walker(day, 0, 0, 6, 8, 3, 0, 0);
        CHECK.walker(day, 1, 0, 3, 8, 0, 0, 0);
        CHECK.walker(day, 2, 0, 4 + 30, 8, 2, 0, 0);
        CHECK.walker(day, 3, 0, 30, 8, 3, 0, 0);
        SaltBells still = CHECK.with(text);
        still.stroke(0);
        CHECK.walker(still, 0, 0, 1, 8, 1, 0, -1);
        SaltBells night = CHECK.with("night 1;" + text);
        night.stroke(1);
        CHECK.walker(night, 0, 0, 2 + 6, 8, 1, 0, 0);
        CHECK.walker(night, 1, 0, 3 + 6, 8, 2, 0, 0);
        SaltBells there = CHECK.with("tower 3 3 20 0;mirage 3 3;plain 3 3 9;");
        due("in the cell already, mirage or not", 1, () -> there.stroke(1));
        SaltBells zero = CHECK.with("night 0;" + text);
        zero.stroke(1);
        CHECK.walker(zero, 0, 0, 6, 8, 3, 0, 0);
    }

    private static void rings() {
        SaltBells x = CHECK.with("flat 2 2;plain 0 1 99;camel 1 0 0;");
        int[] cells = {0, 1, 3, 2, 0, 1, 3, 2};
        int[] others = {1, 1, 3, 2, 0, 1, 3, 2};
        for (int i = 0; i < cells.length; i++) {
            x.stroke(0);
            CHECK.walker(x, 0, 0, cells[i], 98 - i, (i + 1) % 4, 0, -1, i + 1);
            CHECK.walker(x, 1, 4, others[i], 0, (i + 1) % 4, 0, -1, i + 1);
            CHECK.same("why", -2, x.why(0, i));
        }
        SaltBells after = CHECK.with("tower 0 0 20 0;plain 4 0 99;");
        after.stroke(1);
        after.stroke(0);
        CHECK.walker(after, 0, 0, 2, 97, 0, 0, 0, 2);
    }

    private static void waterAndRest() {
        SaltBells x = CHECK.with("tower 0 0 20 0;plain 5 0 0;camel 5 0 7;child 5 0 2;child 5 0 0;");
        due("stroke", 0, () -> x.stroke(1));
        CHECK.walker(x, 0, 0, 5, 0, 0, 3, -1, 1);
        CHECK.walker(x, 1, 4, 4, 7, 3, 0, 0, 1);
        CHECK.walker(x, 2, 3, 5, 1, 0, 0, -1, 1);
        CHECK.walker(x, 3, 3, 5, 0, 0, 3, -1, 1);
        x.stroke(1);
        CHECK.walker(x, 0, 0, 5, 0, 0, 3, -1, 1);
        CHECK.walker(x, 2, 3, 4, 0, 3, 0, 0, 2);
        x.stroke(1);
        CHECK.walker(x, 2, 3, 4, 0, 3, 3, 0, 3);
        int[][] whys = {{-3, -3, -3}, {0, 0, 0}, {-3, 0, -3}, {-3, -3, -3}};
        for (int w = 0; w < 4; w++) {
            for (int i = 0; i < 3; i++) {
                CHECK.same("why(" + w + ", " + i + ")", whys[w][i], x.why(w, i));
            }
        }
        due("fallen", 3, () -> x.count(11));
    }

    private static void stubborn() {
        SaltBells x = CHECK.with("tower 0 0 20 1;tower 5 5 20 2;tower 0 5 20 1;stubborn 3 0 99;");
        x.stroke(1);
        due("followed", 0, () -> x.walker(0, 5));
        x.stroke(0b110);
        due("one of that voice, though further", 2, () -> x.walker(0, 5));
        x.stroke(0);
        x.stroke(0b011);
        due("that voice, though one was heard between", 0, () -> x.walker(0, 5));
        x.stroke(0b010);
        due("another voice, if none of that is heard", 1, () -> x.walker(0, 5));
        x.stroke(0b111);
        due("the new voice", 1, () -> x.walker(0, 5));
        SaltBells first = CHECK.with("tower 0 0 20 1;tower 5 5 20 2;stubborn 4 4 99;");
        first.stroke(3);
        due("the nearest at first", 1, () -> first.walker(0, 5));
    }

    private static void fearful() {
        SaltBells x = CHECK.with("tower 0 0 20 1;tower 5 5 20 1;tower 5 0 2 1;tower 0 5 20 2;fearful 1 3 99;");
        x.stroke(0);
        CHECK.walker(x, 0, 2, 1 + 12, 98, 1, 0, -1, 1);
        x.stroke(3);
        CHECK.walker(x, 0, 2, 1 + 12, 97, 1, 0, -1, 2);
        due("stayed", -2, () -> x.why(0, 1));
        x.stroke(0b1001);
        due("two voices frighten none", 0, () -> x.why(0, 2));
        x.stroke(0b0101);
        due("one not heard frightens none", 0, () -> x.why(0, 3));
        x.stroke(0b1011);
        due("two of three", -2, () -> x.why(0, 4));
        due("what he followed stays", 0, () -> x.walker(0, 5));
    }

    private static void inAndTaken() {
        SaltBells x = CHECK.with("tower 0 0 20 1;tower 5 5 20 1 false;plain 1 0 9;plain 0 0 9;plain 4 5 9;plain 5 5 9;");
        due("came in", 2, () -> x.stroke(3));
        CHECK.walker(x, 0, 0, 0, 8, 3, 1, 0, 1);
        CHECK.walker(x, 1, 0, 0, 8, 0, 1, 0, 1);
        CHECK.walker(x, 2, 0, 35, 8, 1, 2, 1, 1);
        CHECK.walker(x, 3, 0, 35, 8, 0, 2, 1, 1);
        due("in", 2, () -> x.count(9));
        due("taken", 2, () -> x.count(10));
        due("nobody is out", 0, () -> x.stroke(3));
        CHECK.walker(x, 0, 0, 0, 8, 3, 1, 0, 1);
        due("why of one who is in", -3, () -> x.why(0, 1));
        SaltBells past = CHECK.with("tower 0 0 20 1;tower 2 0 20 2;stubborn 4 0 9;");
        past.stroke(1);
        past.stroke(1);
        due("over a tower that isn't followed", 2, () -> past.walker(0, 1));
        due("he is out there", 0, () -> past.walker(0, 4));
        past.stroke(3);
        due("and goes on", 1, () -> past.walker(0, 1));
    }

    private static void whatCannotBe() {
        SaltBells x = CHECK.with("tower 0 0 20 1 strokes 2;tower 5 5 20 1;plain 3 3 99;");
        for (int set : new int[] {4, 7, 32, 64, Integer.MIN_VALUE, -1, 1 << 30}) {
            due("stroke(" + set + ")", -1, () -> x.stroke(set));
        }
        due("status 1", 7, () -> x.count(14));
        due("nothing was done", 0, () -> x.count(7));
        due("nobody went", 21, () -> x.walker(0, 1));
        due("ring none of what can't be", 0, () -> x.ring(4, 0));
        due("status 1", 7, () -> x.count(14));
        due("ring till it can't be", 2, () -> x.ring(3, 200));
        due("status 1", 8, () -> x.count(14));
        due("left", 0, () -> x.tower(0, 3));
        due("left", 97, () -> x.tower(1, 3));
        due("a set with a silent tower", -1, () -> x.stroke(3));
        due("nothing less", 97, () -> x.tower(1, 3));
        due("without it", 0, () -> x.stroke(2));
        due("ring 200", 200, () -> x.ring(0, 200));
    }

    private static void undoing() {
        SaltBells x = CHECK.with("tower 0 0 20 0;tower 5 5 20 1 false;plain 2 0 2;child 5 4 9;stubborn 3 3 9;fearful 0 3 9;");
        int[][] before = new int[6][];
        int[] sets = {1, 0, 3, 2, 1, 0};
        for (int i = 0; i < sets.length; i++) {
            before[i] = all(x);
            x.stroke(sets[i]);
        }
        int[] end = all(x);
        for (int i = 5; i >= 0; i--) {
            CHECK.due("undo", true, x.undo());
            compare("undone " + i, before[i], all(x));
            CHECK.same("can be undone", i, x.count(7));
            CHECK.same("can be done again", 6 - i, x.count(8));
        }
        CHECK.due("undo none", false, x.undo());
        for (int i = 0; i < 6; i++) {
            compare("to be done again " + i, before[i], all(x));
            CHECK.due("redo", true, x.redo());
        }
        compare("done again", end, all(x));
        CHECK.due("redo none", false, x.redo());
        x.undo();
        x.undo();
        due("a stroke that can't be forgets nothing", -1, () -> x.stroke(99));
        due("can be done again", 2, () -> x.count(8));
        x.stroke(0);
        due("a new one forgets", 0, () -> x.count(8));
        due("undone ones", 5, () -> x.count(7));
        CHECK.due("redo none", false, x.redo());
        due("status stays", 1, () -> x.count(14));
    }

    private static int[] all(SaltBells x) {
        int[] all = new int[30];
        for (int w = 0; w < 4; w++) {
            for (int what = 0; what < 7; what++) {
                all[w * 7 + what] = x.walker(w, what);
            }
        }
        all[28] = x.tower(0, 3);
        all[29] = x.tower(1, 3);
        return all;
    }

    private static void compare(String what, int[] want, int[] got) {
        for (int i = 0; i < want.length; i++) {
            CHECK.same(what + " [" + i + "]", want[i], got[i]);
        }
    }

    private static void longPast() {
        SaltBells x = CHECK.with("tower 5 5 1 0;camel 0 0 0;");
        x.ring(0, 3);
        x.ring(1, 99);
        due("100 can be undone", 100, () -> x.count(7));
        due("the eldest is the third", -2, () -> x.why(0, 0));
        due("why(0, 100)", Check.NO_SUCH, () -> x.why(0, 100));
        int undone = 0;
        for (int i = 0; i < 101; i++) {
            undone += x.undo() ? 1 : 0;
        }
        CHECK.same("undone", 100, undone);
        due("two strokes stay", 2, () -> x.walker(0, 6));
        due("100 can be done again", 100, () -> x.count(8));
        x.redo();
        due("the third was still", 99, () -> x.tower(0, 3));
        x.redo();
        due("the fourth was not", 98, () -> x.tower(0, 3));
        due("done again", 4, () -> x.walker(0, 6));
        due("can be undone", 2, () -> x.count(7));
    }
}
