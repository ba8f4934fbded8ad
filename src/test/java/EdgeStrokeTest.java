import java.util.function.LongSupplier;

/** Sentences with a boundary case, each with its test: how far, and a stroke (Terms 2), promises 9, 10 and 11. */
public final class EdgeStrokeTest {
    private static final Check CHECK = new Check("edges of strokes");

    public static void main(String[] args) {
        steps();
        wind();
        heardAtMost();
        strokesLeft();
        whoIsOut();
        water();
        children();
        leastFar();
        stubborn();
        fearful();
        inTheCellAlready();
        whichWay();
        mirages();
        rings();
        headings();
        beyondTheFlat();
        cameIn();
        cannotBe();
        farOf();
        heardIn();
        strokeAnswers();
        CHECK.end();
    }

    private static void due(String what, long want, LongSupplier call) {
        CHECK.due(what, want, call);
    }

    private static void steps() {
        CHECK.sentence("Terms 2", "HOW FAR a TOWER is from a CELL: 4 by the steps between them (east and south together)");
        SaltBells x = CHECK.with("flat 10 10;tower 0 0 1 0;tower 9 9 1 0;tower 9 0 1 0;");
        due("no step", 0, () -> x.far(0, 0));
        due("a step east", 4, () -> x.far(0, 1));
        due("a step south", 4, () -> x.far(0, 10));
        due("most steps", 72, () -> x.far(0, 99));
        due("most steps back", 72, () -> x.far(1, 0));
        due("along a side", 36, () -> x.far(2, 0));
    }

    private static void wind() {
        CHECK.sentence("Terms 2", "less STRENGTH by how many steps the CELL lies from the TOWER in the direction to which "
            + "WIND blows (below 0, if it lies the other way)");
        String[] winds = {"north", "east", "south", "west"};
        int[] cells = {2, 22 + 2, 42, 22 - 2};
        for (int wind = 0; wind < winds.length; wind++) {
            for (int strength = 0; strength <= 3; strength++) {
                SaltBells x = CHECK.with("flat 10 5;tower 2 2 1 0;wind " + winds[wind] + " " + strength + ";");
                for (int side = 0; side < cells.length; side++) {
                    int along = side == wind ? 2 : (side + 2) % 4 == wind ? -2 : 0;
                    CHECK.same(winds[wind] + " " + strength + ", side " + side, 8 - strength * along, x.far(0, cells[side]));
                }
                CHECK.same("in the tower's cell", 0, x.far(0, 22));
            }
        }
        SaltBells corner = CHECK.with("flat 10 10;tower 9 9 20 0;wind south 3;");
        due("furthest against the wind", 72 + 27, () -> corner.far(0, 0));
    }

    private static void heardAtMost() {
        CHECK.sentence("Terms 2", "A rung TOWER is HEARD there, if that is at most 4 by RANGE and NIGHT together.");
        SaltBells still = CHECK.with("flat 10 2;tower 0 0 3 0;");
        due("12 of 12", 1, () -> still.heard(3));
        due("16 of 12", 0, () -> still.heard(4));
        due("16 of 12, aside", 0, () -> still.heard(13));
        SaltBells night = CHECK.with("flat 10 2;tower 0 0 3 0;night 2;");
        due("20 of 20", 1, () -> night.heard(5));
        due("24 of 20", 0, () -> night.heard(6));
        SaltBells down = CHECK.with("flat 10 2;tower 0 0 3 0;wind east 1;");
        due("12 of 12", 1, () -> down.heard(4));
        due("15 of 12", 0, () -> down.heard(5));
        SaltBells odd = CHECK.with("flat 10 2;tower 9 0 2 0;wind east 3;night 3;");
        due("14 of 20", 1, () -> odd.heard(7));
        due("21 of 20", 0, () -> odd.heard(6));
        SaltBells far = CHECK.with("flat 10 10;tower 9 9 20 0;wind south 3;night 4;");
        due("99 of 96", 0, () -> far.heard(0));
        CHECK.same("one more", 0, Check.flat(far, "flat 10 10;tower 9 9 20 0;wind south 3;night 5;"));
        due("99 of 100", 1, () -> far.heard(0));
        SaltBells goes = CHECK.with("flat 10 2;tower 0 0 3 0;plain 3 0 9;plain 4 0 9;");
        goes.stroke(1);
        due("he hears it", 0, () -> goes.why(0, 0));
        due("he doesn't", -2, () -> goes.why(1, 0));
    }

    private static void strokesLeft() {
        CHECK.sentence("Terms 2", "A STROKE: a set of TOWERS rings, each of which has a STROKE left (one less then).");
        SaltBells x = CHECK.with("tower 0 0 1 0 strokes 1;tower 1 0 1 0 strokes 2;tower 2 0 1 0;");
        due("the first and the last", 0, () -> x.stroke(0b101));
        int[] left = {0, 2, 98};
        for (int t = 0; t < left.length; t++) {
            CHECK.same("left of tower " + t, left[t], x.tower(t, 3));
        }
        due("the first has none", -1, () -> x.stroke(0b001));
        due("the second has", 0, () -> x.stroke(0b010));
        due("and has once more", 0, () -> x.stroke(0b110));
        due("and no more", -1, () -> x.stroke(0b010));
        due("none is rung", 0, () -> x.stroke(0));
        due("left", 97, () -> x.tower(2, 3));
    }

    private static void whoIsOut() {
        CHECK.sentence("Terms 2", "All WALKERS who are out (not in, taken, fallen), by numbers, each by what he HEARS from his CELL");
        SaltBells x = CHECK.with("tower 0 0 2 0;tower 5 5 2 1 false;plain 1 0 9;child 5 5 9;plain 3 3 0;plain 2 2 9;");
        x.stroke(3);
        x.stroke(3);
        int[][] then = {{0, 0, 8, 3, 1, 0, 1}, {3, 35, 7, 0, 2, 1, 2}, {0, 21, 0, 0, 3, -1, 1}};
        for (int times = 0; times < 3; times++) {
            for (int w = 0; w < 3; w++) {
                CHECK.walker(x, w, then[w]);
            }
            x.ring(times, 2);
        }
        due("one who is out", 8, () -> x.walker(3, 6));
        for (int w = 0; w < 3; w++) {
            CHECK.same("why of " + w, -3, x.why(w, 7));
        }
    }

    private static void water() {
        CHECK.sentence("Terms 2", "(a) One without WATER FALLS (a camel needs none).");
        SaltBells x = CHECK.with("tower 0 0 20 0;plain 0 0 0;plain 0 1 1;camel 5 5 0;child 3 0 0;");
        due("one falls in the cell of the bell", 1, () -> x.stroke(1));
        CHECK.walker(x, 0, 0, 0, 0, 0, 3, -1, 1);
        CHECK.walker(x, 1, 0, 0, 0, 0, 1, 0, 1);
        CHECK.walker(x, 2, 4, 34, 0, 3, 0, 0, 1);
        CHECK.walker(x, 3, 3, 3, 0, 0, 3, -1, 1);
        CHECK.count(x, 11, 2);
        for (String kind : new String[] {"plain", "stubborn", "fearful", "child"}) {
            SaltBells dry = CHECK.with(kind + " 3 3 2;");
            dry.ring(0, 2);
            due(kind + " is out", 0, () -> dry.walker(0, 4));
            dry.stroke(0);
            due(kind + " falls", 3, () -> dry.walker(0, 4));
        }

        CHECK.sentence("Terms 2", "Else his WATER is one less (not a camel's).");
        SaltBells y = CHECK.with("plain 1 1 99;camel 1 1 99;child 1 1 99;camel 1 1 0;");
        for (int i = 1; i <= 99; i++) {
            y.stroke(0);
            CHECK.same("a plain one's", 99 - i, y.walker(0, 2));
            CHECK.same("a camel's", 99, y.walker(1, 2));
            CHECK.same("a child's, though it rests", 99 - i, y.walker(2, 2));
        }
        CHECK.count(y, 11, 0);
        y.stroke(0);
        CHECK.count(y, 11, 2);
        due("a camel's", 0, () -> y.walker(3, 2));
        due("it is out", 0, () -> y.walker(3, 4));
    }

    private static void children() {
        CHECK.sentence("Terms 2", "(b) A child rests by every other STROKE by which it is out: by its first one, "
            + "not by its second one, and so on.");
        SaltBells x = CHECK.with("flat 10 2;tower 0 0 20 0;child 9 0 99;child 9 1 99;");
        int[] cells = {9, 8, 8, 7, 7, 6};
        for (int i = 0; i < cells.length; i++) {
            x.stroke(1);
            CHECK.walker(x, 0, 3, cells[i], 98 - i, i == 0 ? 0 : 3, 0, i == 0 ? -1 : 0, i + 1);
            CHECK.same("why", i % 2 == 0 ? -3 : 0, x.why(0, i));
        }
        x.undo();
        x.stroke(0);
        CHECK.walker(x, 0, 3, 6, 93, 0, 0, 0, 6);
        due("it heard none", -2, () -> x.why(0, 5));
        SaltBells home = CHECK.with("tower 0 0 20 0;child 0 0 9;");
        due("it rests in the bell's cell", 0, () -> home.stroke(1));
        due("and is in by its second", 1, () -> home.stroke(1));
    }

    private static void leastFar() {
        CHECK.sentence("Terms 2", "(c) He FOLLOWS the TOWER that is least far of those HEARD, of like ones the least");
        SaltBells x = CHECK.with("tower 5 0 9 0;tower 1 0 9 1;tower 3 3 9 2;tower 0 0 9 3;plain 3 0 9;plain 2 0 9;");
        x.stroke(0b0011);
        due("two like ones", 0, () -> x.why(0, 0));
        due("the nearer, though not the least", 1, () -> x.why(1, 0));
        x.undo();
        x.stroke(0b0110);
        due("without the first", 1, () -> x.why(0, 0));
        x.undo();
        x.stroke(0b1100);
        due("as far by steps east as south", 2, () -> x.why(0, 0));
        x.undo();
        x.stroke(0b1000);
        due("the only one", 3, () -> x.why(0, 0));
        SaltBells short1 = CHECK.with("tower 2 0 1 0;tower 5 0 9 1;plain 0 0 9;");
        short1.stroke(3);
        due("the nearer isn't heard", 1, () -> short1.why(0, 0));
        SaltBells windy = CHECK.with("wind west 1;tower 5 0 9 0;tower 0 0 9 1;plain 2 0 9;");
        windy.stroke(3);
        due("9 of the first, 10 of the second", 0, () -> windy.why(0, 0));
    }

    private static void stubborn() {
        CHECK.sentence("Terms 2", "a stubborn one, if he FOLLOWED one ahead and HEARS some of that VOICE, the least far of these");
        SaltBells x = CHECK.with("flat 7 7;tower 0 0 20 1;tower 5 5 20 2;tower 6 0 20 1;tower 0 5 3 1;"
            + "stubborn 4 4 99;plain 4 4 99;");
        x.stroke(0b0011);
        due("none ahead: the least far", 1, () -> x.why(0, 0));
        x.undo();
        x.stroke(0b0001);
        x.stroke(0b0011);
        due("of that voice, though further", 0, () -> x.why(0, 1));
        due("a plain one goes to the nearer", 1, () -> x.why(1, 1));
        x.undo();
        x.stroke(0b0111);
        due("another of that voice, as far: the least", 0, () -> x.why(0, 1));
        x.undo();
        x.stroke(0b0110);
        due("another of that voice alone", 2, () -> x.why(0, 1));
        x.undo();
        x.stroke(0b0010);
        due("none of that voice", 1, () -> x.why(0, 1));
        x.undo();
        x.stroke(0b1010);
        due("one of that voice that isn't heard", 1, () -> x.why(0, 1));
        x.undo();
        x.stroke(0);
        x.stroke(0b0011);
        due("ahead of a still one", 0, () -> x.why(0, 2));
    }

    private static void fearful() {
        CHECK.sentence("Terms 2", "a fearful one none, if he HEARS two or more of one VOICE (he stays, HEADING too)");
        SaltBells x = CHECK.with("tower 0 0 20 0;tower 5 0 20 1;tower 0 5 20 2;tower 5 5 20 3;tower 3 3 1 3;"
            + "fearful 2 2 99;fearful 3 2 99;");
        x.stroke(0);
        CHECK.walker(x, 0, 2, 8, 98, 1, 0, -1, 1);
        x.stroke(0b01111);
        due("four voices", 0, () -> x.why(0, 1));
        x.undo();
        x.stroke(0b11111);
        due("two of one voice, of which he hears one", 0, () -> x.why(0, 1));
        x.undo();
        CHECK.walker(x, 1, 2, 9, 98, 1, 0, -1, 1);
        SaltBells two = CHECK.with("tower 0 0 20 3;tower 5 0 20 3;tower 0 5 20 3;tower 4 5 20 0;fearful 0 0 99;fearful 3 5 9;");
        two.stroke(0b0001);
        CHECK.walker(two, 0, 2, 0, 98, 0, 1, 0, 1);
        two.undo();
        due("two of one voice, in the cell of one", 0, () -> two.stroke(0b0011));
        CHECK.walker(two, 0, 2, 0, 98, 0, 0, -1, 1);
        due("why", -2, () -> two.why(0, 0));
        two.stroke(0b1111);
        CHECK.walker(two, 1, 2, 33, 7, 0, 0, -1, 2);
        due("three of one voice, though another is nearer", -2, () -> two.why(1, 1));
        two.stroke(0b1001);
        due("two voices", 3, () -> two.why(1, 2));
        CHECK.walker(two, 1, 2, 34, 6, 1, 1, 3, 3);
    }

    private static void inTheCellAlready() {
        CHECK.sentence("Terms 2", "(d) In that TOWER's CELL already, he is in (taken, if it is FALSE).");
        SaltBells x = CHECK.with("tower 0 0 1 0;tower 5 5 1 0 false;plain 0 0 1;plain 5 5 1;camel 0 0 0;plain 0 0 9;mirage 0 0;");
        due("three come in", 3, () -> x.stroke(3));
        CHECK.walker(x, 0, 0, 0, 0, 0, 1, 0, 1);
        CHECK.walker(x, 1, 0, 35, 0, 0, 2, 1, 1);
        CHECK.walker(x, 2, 4, 0, 0, 0, 1, 0, 1);
        SaltBells heading = CHECK.with("flat 2 2;tower 1 0 1 0;plain 1 1 9;");
        heading.ring(0, 2);
        due("he is in", 1, () -> heading.stroke(1));
        CHECK.walker(heading, 0, 0, 1, 6, 2, 1, 0, 3);
        SaltBells other = CHECK.with("tower 0 0 1 0;tower 3 0 9 1;plain 0 0 9;");
        due("in the cell of one that is still", 0, () -> other.stroke(2));
        due("he goes", 1, () -> other.walker(0, 1));
    }

    /** Where one is after a stroke of a tower at 3, 3 of 7 by 7 cells. */
    private static void goes(int x, int y, int toX, int toY, int heading) {
        SaltBells s = CHECK.with("flat 7 7;tower 3 3 20 0;plain " + x + " " + y + " 9;");
        s.stroke(1);
        CHECK.same("cell from " + x + " " + y, 7 * toY + toX, s.walker(0, 1));
        CHECK.same("heading from " + x + " " + y, heading, s.walker(0, 3));
    }

    private static void whichWay() {
        CHECK.sentence("Terms 2", "Else he goes a step towards it: east or west, if it is further so than north or south, "
            + "or as far; else north or south");
        goes(1, 1, 2, 1, 1);
        goes(5, 1, 4, 1, 3);
        goes(1, 5, 2, 5, 1);
        goes(5, 5, 4, 5, 3);
        goes(0, 1, 1, 1, 1);
        goes(6, 5, 5, 5, 3);
        goes(1, 0, 1, 1, 2);
        goes(5, 0, 5, 1, 2);
        goes(1, 6, 1, 5, 0);
        goes(5, 6, 5, 5, 0);
        goes(3, 0, 3, 1, 2);
        goes(3, 6, 3, 5, 0);
        goes(0, 3, 1, 3, 1);
        goes(6, 3, 5, 3, 3);
    }

    private static void mirages() {
        CHECK.sentence("Terms 2", "by day from a CELL with a MIRAGE the other way");
        String text = "flat 7 7;tower 3 3 20 0;mirage 1 1;mirage 3 1;mirage 3 5;mirage 5 3;"
            + "plain 1 1 9;plain 3 1 9;plain 3 5 9;plain 5 3 9;";
        int[] away = {7, 3, 45, 27};
        int[] towards = {9, 17, 31, 25};
        int[] headings = {3, 0, 2, 1};
        for (String night : new String[] {"", "night 0;", "night 1;", "night 9;"}) {
            boolean day = night.isEmpty() || night.equals("night 0;");
            SaltBells x = CHECK.with(text + night);
            x.stroke(1);
            for (int w = 0; w < 4; w++) {
                CHECK.same("cell of " + w + " " + night, day ? away[w] : towards[w], x.walker(w, 1));
                CHECK.same("heading of " + w + " " + night, day ? headings[w] : (headings[w] + 2) % 4, x.walker(w, 3));
            }
        }
        SaltBells into = CHECK.with("tower 0 0 20 0;mirage 1 0;mirage 0 0;plain 2 0 9;plain 0 1 9;");
        due("into a mirage, and from beside one", 1, () -> into.stroke(1));
        due("a step into it", 1, () -> into.walker(0, 1));
        SaltBells rings = CHECK.with("mirage 3 3;plain 3 3 9;");
        rings.stroke(0);
        due("one who hears none isn't misled", 15, () -> rings.walker(0, 1));
    }

    private static void rings() {
        CHECK.sentence("Terms 2", "One who HEARS none goes RINGS: a step to his HEADING (0 north at first), which is the "
            + "next one then (east, south, west, north).");
        SaltBells x = CHECK.with("tower 5 5 1 0;plain 1 1 99;");
        int[] cells = {1, 2, 8, 7, 1, 2, 8, 7};
        for (int i = 0; i < cells.length; i++) {
            x.stroke(i % 2);
            CHECK.walker(x, 0, 0, cells[i], 98 - i, (i + 1) % 4, 0, -1, i + 1);
            CHECK.same("why", -2, x.why(0, i));
        }
    }

    private static void headings() {
        CHECK.sentence("Terms 2", "One who follows has the direction of his step as HEADING.");
        String[] cells = {"3 5", "1 3", "3 1", "5 3"};
        for (int way = 0; way < cells.length; way++) {
            SaltBells x = CHECK.with("tower 3 3 20 0;plain " + cells[way] + " 9;");
            x.stroke(1);
            CHECK.same("heading of " + cells[way], way, x.walker(0, 3));
            int cell = x.walker(0, 1);
            x.stroke(0);
            int[] steps = {-6, 1, 6, -1};
            CHECK.same("a ring goes on from there", cell + steps[way], x.walker(0, 1));
            CHECK.same("next heading", (way + 1) % 4, x.walker(0, 3));
        }
    }

    private static void beyondTheFlat() {
        CHECK.sentence("Terms 2", "A step beyond THE FLAT isn't made (HEADING is as if it were).");
        SaltBells x = CHECK.with("flat 2 2;plain 0 0 99;plain 1 0 99;plain 0 1 99;plain 1 1 99;");
        int[][] cells = {{0, 1, 3, 2}, {1, 1, 3, 2}, {0, 1, 3, 2}, {1, 1, 3, 2}};
        for (int i = 0; i < 4; i++) {
            x.stroke(0);
            for (int w = 0; w < 4; w++) {
                CHECK.walker(x, w, 0, cells[w][i], 98 - i, (i + 1) % 4);
            }
        }
        SaltBells wide = CHECK.with("flat 10 3;plain 9 2 99;plain 9 0 99;plain 0 2 99;plain 0 0 9;");
        int[][] ways = {{19, 19, 29, 28}, {9, 9, 19, 18}, {10, 11, 21, 20}, {0, 1, 11, 10}};
        for (int i = 0; i < 4; i++) {
            wide.stroke(0);
            for (int w = 0; w < 4; w++) {
                CHECK.same("cell of " + w, ways[w][i], wide.walker(w, 1));
            }
        }
        SaltBells misled = CHECK.with("flat 4 4;tower 2 2 20 0;tower 1 1 20 1;mirage 0 2;mirage 2 0;mirage 3 1;mirage 1 3;"
            + "plain 0 2 9;plain 2 0 9;plain 3 1 9;plain 1 3 9;");
        misled.stroke(1);
        CHECK.walker(misled, 0, 0, 8, 8, 3, 0, 0);
        CHECK.walker(misled, 1, 0, 2, 8, 0, 0, 0);
        misled.undo();
        misled.stroke(2);
        CHECK.walker(misled, 2, 0, 7, 8, 1, 0, 1);
        CHECK.walker(misled, 3, 0, 13, 8, 2, 0, 1);
    }

    private static void cameIn() {
        CHECK.sentence("Terms 2", "(e) In the CELL of the TOWER he FOLLOWS now, he is in (taken).");
        SaltBells x = CHECK.with("tower 0 0 9 0;tower 2 0 9 1;tower 5 5 9 2 false;plain 1 0 9;plain 3 0 9;plain 5 4 9;");
        due("by the last step", 1, () -> x.stroke(0b001));
        CHECK.walker(x, 0, 0, 0, 8, 3, 1, 0, 1);
        CHECK.walker(x, 1, 0, 2, 8, 3, 0, 0, 1);
        x.undo();
        due("taken by the last step", 1, () -> x.stroke(0b101));
        CHECK.walker(x, 2, 0, 35, 8, 2, 2, 2, 1);
        CHECK.count(x, 10, 1);
        SaltBells rings = CHECK.with("tower 1 0 1 0;plain 1 1 9;");
        due("a ring into the cell", 0, () -> rings.stroke(0));
        CHECK.walker(rings, 0, 0, 1, 8, 1, 0, -1, 1);
        SaltBells ofOne = CHECK.with("tower 1 0 1 0;tower 3 0 4 1 false;plain 0 0 9;");
        due("into the cell of one he doesn't follow", 0, () -> ofOne.stroke(0b10));
        CHECK.walker(ofOne, 0, 0, 1, 8, 1, 0, 1, 1);
    }

    private static void cannotBe() {
        CHECK.sentence("Terms 2", "A STROKE can't be if a TOWER of it has none left, or there is no such TOWER.");
        SaltBells none = new SaltBells();
        due("of no towers", 0, () -> none.stroke(0));
        for (int bit = 0; bit < 32; bit++) {
            CHECK.same("no tower " + bit, -1, none.stroke(1 << bit));
        }
        SaltBells five = CHECK.with("tower 0 0 1 0;tower 1 0 1 0 strokes 1;tower 2 0 1 0;tower 3 0 1 0;tower 4 0 1 0;");
        due("all", 0, () -> five.stroke(0b11111));
        due("one has none left", -1, () -> five.stroke(0b11111));
        due("the others", 0, () -> five.stroke(0b11101));
        for (int bit = 5; bit < 32; bit++) {
            CHECK.same("no tower " + bit, -1, five.stroke(1 | 1 << bit));
        }
        CHECK.same("all bits", -1, five.stroke(-1));
        due("nothing was rung", 97, () -> five.tower(0, 3));
        CHECK.count(five, 7, 2);
        CHECK.count(five, 14, 29);
    }

    private static void farOf() {
        CHECK.sentence("Promise 9", "HOW FAR a TOWER is from a CELL. NoSuchElementException: also no such CELL.");
        SaltBells x = CHECK.with("flat 3 2;tower 0 0 1 0;tower 2 1 1 0;");
        due("the first cell", 0, () -> x.far(0, 0));
        due("the last cell", 12, () -> x.far(0, 5));
        due("the last tower", 12, () -> x.far(1, 0));
        for (int cell : new int[] {6, -1, Integer.MIN_VALUE, Integer.MAX_VALUE}) {
            due("far(0, " + cell + ")", Check.NO_SUCH, () -> x.far(0, cell));
        }
        for (int tower : new int[] {2, -1, Integer.MIN_VALUE, Integer.MAX_VALUE}) {
            due("far(" + tower + ", 0)", Check.NO_SUCH, () -> x.far(tower, 0));
        }
    }

    private static void heardIn() {
        CHECK.sentence("Promise 10", "TOWERS that are HEARD in a CELL, if all ring (bits). NoSuchElementException: no such CELL.");
        SaltBells x = CHECK.with("flat 3 2;tower 0 0 1 0 strokes 1;tower 2 0 1 0;tower 1 1 1 0;tower 2 1 9 0;tower 0 1 1 1;");
        int[] heard = {0b11001, 0b01111, 0b01010, 0b11101, 0b11100, 0b01110};
        for (int cell = 0; cell < heard.length; cell++) {
            CHECK.same("heard(" + cell + ")", heard[cell], x.heard(cell));
        }
        x.stroke(1);
        due("one that has no strokes left, too", 0b11001, () -> x.heard(0));
        for (int cell : new int[] {6, 36, -1, Integer.MIN_VALUE, Integer.MAX_VALUE}) {
            due("heard(" + cell + ")", Check.NO_SUCH, () -> x.heard(cell));
        }
    }

    private static void strokeAnswers() {
        CHECK.sentence("Promise 11", "A STROKE: how many came in by it.");
        SaltBells x = CHECK.with("tower 0 0 9 0;tower 5 5 9 0 false;plain 0 0 9;plain 1 0 9;camel 2 0 0;plain 0 1 9;");
        due("three", 3, () -> x.stroke(1));
        due("one more", 1, () -> x.stroke(1));
        due("nobody is out", 0, () -> x.stroke(1));
        SaltBells taken = CHECK.with("tower 5 5 9 0 false;plain 5 5 9;plain 5 4 9;");
        due("those taken don't come in", 0, () -> taken.stroke(1));
        CHECK.count(taken, 10, 2);
        SaltBells all = CHECK.with("tower 0 0 9 0;plain 0 0 9;plain 1 0 9;camel 0 0 0;plain 0 1 9;");
        due("all four", 4, () -> all.stroke(1));

        CHECK.sentence("Promise 11", "NONE (STATUS 1): it can't be.");
        SaltBells y = CHECK.with("tower 0 0 9 0 strokes 1;plain 5 5 9;");
        y.ring(0, 2);
        y.undo();
        y.search();
        due("no such tower", -1, () -> y.stroke(2));
        due("below 0", -1, () -> y.stroke(Integer.MIN_VALUE));
        CHECK.counts(y, 6, 6, 1, 1, 0, 0, 0, 1, 1, 0, 0, 0, 0, 0, 2);
        CHECK.walker(y, 0, 0, 29, 8, 1, 0, -1, 1);
        due("search stays", 36, () -> y.cases(-1));
        y.stroke(1);
        due("none left", -1, () -> y.stroke(1));
        CHECK.count(y, 14, 3);
    }
}
