import java.util.function.LongSupplier;

/** Sentences with a boundary case, each with its test: the text of a flat (Terms 1). */
public final class EdgeTextTest {
    private static final Check CHECK = new Check("edges of texts");
    private static final String FIVE_TOWERS =
        "tower 0 0 1 0;tower 1 0 1 0;tower 2 0 1 0;tower 3 0 1 0;tower 4 0 1 0;";
    private static final String FOUR_WALKERS = "plain 0 0 1;child 0 0 1;camel 0 0 1;fearful 0 0 1;";

    public static void main(String[] args) {
        sizes();
        towers();
        walkers();
        windAndNight();
        someCells();
        lengthOfAText();
        tokens();
        blanks();
        lines();
        whichFault();
        faultOne();
        faultTwo();
        faultsThreeAndFour();
        CHECK.end();
    }

    private static void due(String what, long want, LongSupplier call) {
        CHECK.due(what, want, call);
    }

    private static void bad(String text, int fault, int place) {
        SaltBells x = new SaltBells();
        CHECK.same("flat of '" + text + "'", fault, Check.flat(x, text));
        CHECK.same("fault() of '" + text + "'", place, x.fault());
        CHECK.same("count(13) of '" + text + "'", fault == 0 ? 0 : 1, x.count(13));
    }

    /** A number between two pieces of a text: the least and the highest are good, those beside them are too much. */
    private static void numberFromTo(String ahead, int low, int high, String behind) {
        bad(ahead + low + behind, 0, -1);
        bad(ahead + high + behind, 0, -1);
        bad(ahead + (high + 1) + behind, 2, ahead.length());
        bad(ahead + 999 + behind, 2, ahead.length());
        if (low > 0) {
            bad(ahead + (low - 1) + behind, 2, ahead.length());
            bad(ahead + "000" + behind, 2, ahead.length());
        }
    }

    private static void sizes() {
        CHECK.sentence("Terms 1", "THE FLAT has W by H CELLS (2 to 10 each; 6 by 6 without)");
        numberFromTo("flat ", 2, 10, " 5;");
        numberFromTo("flat 5 ", 2, 10, ";");
        for (int[] side : new int[][] {{2, 2}, {2, 10}, {10, 2}, {10, 10}}) {
            SaltBells x = CHECK.with("flat " + side[0] + " " + side[1] + ";");
            CHECK.count(x, 0, side[0]);
            CHECK.count(x, 1, side[1]);
            int cells = side[0] * side[1];
            due("the last cell", 0, () -> x.heard(cells - 1));
            due("one beyond", Check.NO_SUCH, () -> x.heard(cells));
            CHECK.same("a flat that tells no size", 0, Check.flat(x, "night 1;"));
            CHECK.count(x, 0, 6);
            CHECK.count(x, 1, 6);
        }

        CHECK.sentence("Terms 1", "x to the east, y to the south, numbered W by y and x");
        SaltBells corners = CHECK.with("flat 3 2;tower 0 0 1 0;tower 2 0 1 0;tower 0 1 1 0;tower 2 1 1 0;");
        int[] cells = {0, 2, 3, 5};
        for (int t = 0; t < cells.length; t++) {
            CHECK.same("cell of tower " + t, cells[t], corners.tower(t, 0));
        }
    }

    private static void towers() {
        CHECK.sentence("Terms 1", "TOWERS 0, 1 .. (at most 5), each in a CELL (no two in one)");
        SaltBells x = CHECK.with(FIVE_TOWERS);
        CHECK.count(x, 2, 5);
        due("the last one's cell", 4, () -> x.tower(4, 0));
        due("a sixth", Check.NO_SUCH, () -> x.tower(5, 0));
        bad(FIVE_TOWERS + "tower 5 0 1 0;", 2, FIVE_TOWERS.length());
        bad("tower 5 5 1 0;tower 5 5 2 1;", 4, 22);

        CHECK.sentence("Terms 1", "with a RANGE (1 to 20)");
        numberFromTo("tower 0 0 ", 1, 20, " 0;");
        due("the least range", 1, () -> CHECK.with("tower 0 0 1 0;").tower(0, 1));
        due("the longest range", 20, () -> CHECK.with("tower 0 0 20 0;").tower(0, 1));

        CHECK.sentence("Terms 1", "a VOICE (0 to 3)");
        numberFromTo("tower 0 0 1 ", 0, 3, ";");
        due("the first voice", 0, () -> CHECK.with("tower 0 0 1 0;").tower(0, 2));
        due("the last voice", 3, () -> CHECK.with("tower 0 0 1 3;").tower(0, 2));

        CHECK.sentence("Terms 1", "so many STROKES in all (1 to 99; 99 without), FALSE or not");
        numberFromTo("tower 0 0 1 0 strokes ", 1, 99, ";");
        numberFromTo("tower 0 0 1 0 strokes ", 1, 99, " false;");
        SaltBells some = CHECK.with("tower 0 0 1 0 strokes 1;tower 1 0 1 0 strokes 99;tower 2 0 1 0;tower 3 0 1 0 false;");
        int[] strokes = {1, 99, 99, 99};
        for (int t = 0; t < strokes.length; t++) {
            CHECK.same("strokes of tower " + t, strokes[t], some.tower(t, 3));
            CHECK.same("tower " + t + " false or not", t == 3 ? 1 : 0, some.tower(t, 4));
        }
    }

    private static void walkers() {
        CHECK.sentence("Terms 1", "WALKERS 0, 1 .. (at most 4), each of a KIND: 0 plain, 1 stubborn, 2 fearful, 3 child, 4 camel");
        SaltBells x = CHECK.with(FOUR_WALKERS);
        CHECK.count(x, 3, 4);
        due("the last one's kind", 2, () -> x.walker(3, 0));
        due("a fifth", Check.NO_SUCH, () -> x.walker(4, 0));
        String[] kinds = {"plain", "stubborn", "fearful", "child", "camel"};
        for (int kind = 0; kind < kinds.length; kind++) {
            CHECK.same(kinds[kind], kind, CHECK.with(kinds[kind] + " 1 1 1;").walker(0, 0));
            bad(FOUR_WALKERS + kinds[kind] + " 1 1 1;", 2, FOUR_WALKERS.length());
        }

        CHECK.sentence("Terms 1", "in a CELL, with WATER (0 to 99)");
        for (String kind : kinds) {
            numberFromTo(kind + " 0 0 ", 0, 99, ";");
        }
        due("no water", 0, () -> CHECK.with("plain 0 0 0;").walker(0, 2));
        due("most water", 99, () -> CHECK.with("plain 0 0 99;").walker(0, 2));
    }

    private static void windAndNight() {
        CHECK.sentence("Terms 1", "WIND blows to 0 north, 1 east, 2 south, 3 west, with a STRENGTH (0 to 3; 0 without)");
        String[] winds = {"north", "east", "south", "west"};
        for (int wind = 0; wind < winds.length; wind++) {
            numberFromTo("wind " + winds[wind] + " ", 0, 3, ";");
            SaltBells x = CHECK.with("wind " + winds[wind] + " 3;");
            CHECK.count(x, 4, wind);
            CHECK.count(x, 5, 3);
            CHECK.same("a flat without wind", 0, Check.flat(x, ""));
            CHECK.count(x, 5, 0);
        }
        SaltBells still = CHECK.with("wind south 0;");
        CHECK.count(still, 4, 2);
        CHECK.count(still, 5, 0);

        CHECK.sentence("Terms 1", "NIGHT adds to each RANGE (0 to 9; 0 without: it is day)");
        numberFromTo("night ", 0, 9, ";");
        SaltBells night = CHECK.with("night 9;tower 0 0 1 0;");
        CHECK.count(night, 6, 9);
        due("1 and 9 steps off", 1, () -> night.heard(5 + 5 * 6));
        CHECK.same("a flat without night", 0, Check.flat(night, "tower 0 0 1 0;"));
        CHECK.count(night, 6, 0);
        due("1 step off", 1, () -> night.heard(1));
        due("2 steps off", 0, () -> night.heard(2));
        for (String told : new String[] {"", "night 0;", "night 1;"}) {
            SaltBells x = CHECK.with(told + "tower 0 0 9 0;mirage 2 0;plain 2 0 9;");
            x.stroke(1);
            due("a mirage by '" + told + "'", told.equals("night 1;") ? 1 : 3, () -> x.walker(0, 1));
        }
    }

    private static void someCells() {
        CHECK.sentence("Terms 1", "MIRAGES: some CELLS.");
        String all = "mirage 0 0;mirage 1 0;mirage 0 1;mirage 1 1;";
        SaltBells x = CHECK.with("flat 2 2;tower 0 0 9 0;" + all + "plain 1 0 9;plain 0 1 9;plain 1 1 9;plain 0 0 9;");
        due("all cells", 1, () -> x.stroke(1));
        int[] cells = {1, 2, 3, 0};
        for (int w = 0; w < cells.length; w++) {
            CHECK.same("cell of " + w, cells[w], x.walker(w, 1));
        }
        CHECK.same("no cells", 0, Check.flat(x, "flat 2 2;tower 0 0 9 0;plain 1 0 9;plain 0 1 9;plain 1 1 9;plain 0 0 9;"));
        due("by none", 3, () -> x.stroke(1));
        SaltBells ends = CHECK.with("flat 10 10;tower 5 5 20 0;mirage 0 0;mirage 9 9;plain 0 0 9;plain 9 9 9;plain 0 1 9;");
        ends.stroke(1);
        CHECK.walker(ends, 0, 0, 0, 8, 3);
        CHECK.walker(ends, 1, 0, 99, 8, 1);
        CHECK.walker(ends, 2, 0, 11, 8, 1);
        StringBuilder most = new StringBuilder("flat 10 5;");
        for (int cell = 0; cell < 44; cell++) {
            most.append("mirage ").append(cell % 10).append(' ').append(cell / 10).append(';');
        }
        bad(most.toString(), 0, -1);
        bad(most.substring(0, 483) + "mirage 0 0;", 4, 492);
    }

    private static void lengthOfAText() {
        CHECK.sentence("Terms 1", "A TEXT of at most 500 bytes tells it.");
        String full = " ".repeat(492) + "night 9;";
        SaltBells x = CHECK.with(full);
        CHECK.count(x, 6, 9);
        SaltBells less = new SaltBells();
        Check.feed(less, full);
        due("flat(499)", 1, () -> less.flat(499));
        due("fault()", 499, less::fault);
        String many = "mirage 0 0;mirage 1 0;mirage 2 0;" + " ".repeat(466) + "x";
        bad(many, 1, 499);
        bad(" ".repeat(493) + "night 1", 1, 500);
        bad(" ".repeat(495) + "night", 1, 500);
    }

    private static void tokens() {
        CHECK.sentence("Terms 1", "words (a .. z, the longest row)");
        bad("nights 1;", 1, 0);
        bad("nigh t 1;", 1, 0);
        bad("might 1;", 1, 0);
        bad("nighs 1;", 1, 0);
        bad("windnorth 1;", 1, 0);
        bad("wind northnight 1;", 1, 5);
        bad("tower 0 0 1 0 strokes 1 falsefalse;", 1, 24);
        bad("tower 0 0 1 0 strokes1false;", 0, -1);
        bad("z", 1, 0);
        bad("a", 1, 0);
        bad("night 1;night`", 4, 8);
        bad("night 1;nightz", 1, 8);
        bad("night 1;nighta", 1, 8);

        CHECK.sentence("Terms 1", "NUMBERS (1 to 3 digits)");
        for (String nine : new String[] {"9", "09", "009"}) {
            SaltBells x = CHECK.with("night " + nine + ";");
            CHECK.count(x, 6, 9);
        }
        bad("night 0009;", 2, 6);
        bad("night 00009;", 2, 6);
        bad("night;", 1, 5);

        CHECK.sentence("Terms 1", "signs ; { } and blanks (32, 10) between them, which count for nothing");
        for (int b = 0; b < 256; b++) {
            String text = "night" + (char) b + "1;";
            if (b == ' ' || b == '\n' || b == '0') {
                bad(text, 0, -1);
            } else if (b >= '1' && b <= '9') {
                bad(text, 2, 5);
            } else {
                bad(text, 1, b >= 'a' && b <= 'z' ? 0 : 5);
            }
        }
    }

    private static void blanks() {
        CHECK.sentence("Terms 1", "and blanks (32, 10) between them, which count for nothing");
        bad("\n \n", 0, -1);
        bad(" \n\n flat 2\n2 \n ; \n\nnight 9 ;\n", 0, -1);
        bad("flat2 2;night9;wind north1;", 0, -1);
        bad("ni ght 1;", 1, 0);
        bad("night 1;mirage 1\n1 1;", 1, 19);
        bad("flat 10 1 0;", 2, 8);
        for (int b = 0; b < 256; b++) {
            boolean blank = b == ' ' || b == '\n';
            String text = "night 1;" + (char) b;
            bad(text, blank ? 0 : 1, blank ? -1 : 8);
        }
    }

    private static void lines() {
        CHECK.sentence("Terms 1", "FLAT: LINE*.");
        bad("", 0, -1);
        bad("    ", 0, -1);
        bad(FIVE_TOWERS + FOUR_WALKERS + "wind north 1;night 1;mirage 0 0;mirage 0 1;", 0, -1);

        CHECK.sentence("Terms 1", "LINE: ('flat' W H | 'tower' X Y RANGE VOICE ['strokes' NUMBER] ['false'] | ('plain' | 'stubborn' | "
            + "'fearful' | 'child' | 'camel') X Y WATER | 'wind' ('north' | 'east' | 'south' | 'west') STRENGTH | "
            + "'night' NUMBER | 'mirage' X Y) ';', all in capitals being NUMBERS.");
        String[] whole = {"flat 3 4", "tower 1 2 3 0 strokes 4", "plain 1 2 3", "stubborn 1 2 3", "fearful 1 2 3", "child 1 2 3",
            "camel 1 2 3", "wind north 1", "wind east 1", "wind south 1", "wind west 1", "night 1", "mirage 1 2"};
        for (String line : whole) {
            bad(line + ";", 0, -1);
            bad(line + " 1;", 1, line.length() + 1);
            for (int end = line.indexOf(' '); end >= 0; end = line.indexOf(' ', end + 1)) {
                boolean optional = line.startsWith(" strokes", end);
                bad(line.substring(0, end) + ";", optional ? 0 : 1, optional ? -1 : end);
            }
        }

        CHECK.sentence("Terms 1", "['strokes' NUMBER] ['false']");
        bad("tower 0 0 1 0;", 0, -1);
        bad("tower 0 0 1 0 strokes 1;", 0, -1);
        bad("tower 0 0 1 0 false;", 0, -1);
        bad("tower 0 0 1 0 strokes 1 false;", 0, -1);
        bad("tower 0 0 1 0 false strokes 1;", 1, 20);
        bad("tower 0 0 1 0 false false;", 1, 20);
        bad("tower 0 0 1 0 strokes 1 strokes 1;", 1, 24);

        CHECK.sentence("Terms 1", "'flat' is the first LINE, if it is told.");
        bad("flat 2 2;", 0, -1);
        bad(" \nflat 2 2;night 1;", 0, -1);
        bad("night 1;", 0, -1);
        bad("night 1;flat 2 2;", 3, 8);
    }

    private static void whichFault() {
        CHECK.sentence("Terms 1", "FAULTS, the first along the text");
        bad("night 10;x", 2, 6);
        bad("x;night 10;", 1, 0);
        bad("wind north 1;wind north 9;x", 4, 13);
        bad("tower 1 0 1 0;tower 1 0 99 9;flat", 4, 22);
        bad("night 1;flat 0 0;night 1;", 3, 8);
        bad("mirage 1 9;mirage 1 9;", 2, 9);

        CHECK.sentence("Terms 1", "at a TOKEN's first byte");
        bad(" \n nihgt 1;", 1, 3);
        bad("night \n 1234;", 2, 8);
        bad("night 1; \n  flat", 3, 12);
        bad("mirage 1 001;mirage 1  001;", 4, 23);

        CHECK.sentence("Terms 1", "of one TOKEN the least");
        bad("night 1 0001;", 1, 8);
        bad("night flat;", 1, 6);
        bad("flat flat", 1, 5);
        bad(FIVE_TOWERS + "night tower;", 1, FIVE_TOWERS.length() + 6);
        bad(FOUR_WALKERS + "night camel;", 1, FOUR_WALKERS.length() + 6);
        bad("wind north 1;night wind;", 1, 19);
        bad("night 1;mirage night;", 1, 15);
        bad("tower 0 0 1 0;tower 0 0000 1 0;", 2, 22);
        bad("mirage 0 0;mirage 0 0000;", 2, 20);
    }

    /** A text of every kind of line, in which each number has one digit. */
    private static final String ALL_LINES =
        "flat 9 8;tower 1 2 3 0 strokes 4 false;plain 5 6 7;wind east 2;night 3;mirage 4 5;stubborn 1 2 3;";

    private static void faultOne() {
        CHECK.sentence("Terms 1", "1 a TOKEN that can't stand there, or is none (the text's length where it ends too soon)");
        for (int n = 0; n <= ALL_LINES.length(); n++) {
            String text = ALL_LINES.substring(0, n);
            int word = Tokens.startOfWordCut(ALL_LINES, n);
            if (n == 0 || text.endsWith(";")) {
                bad(text, 0, -1);
            } else {
                bad(text, 1, word >= 0 ? word : n);
                bad(text + " \n", 1, word >= 0 ? word : n + 2);
            }
        }
        for (int at = 0; at < ALL_LINES.length(); at++) {
            if (Tokens.starts(ALL_LINES, at)) {
                int end = Tokens.end(ALL_LINES, at);
                for (String wrong : new String[] {"}", "{", "x", "?", "\u00ff"}) {
                    bad(ALL_LINES.substring(0, at) + " " + wrong + " " + ALL_LINES.substring(end), 1, at + 1);
                }
            }
        }
        bad(";", 1, 0);
        bad("night 1;;", 1, 8);
        bad("1;", 1, 0);
        bad("night 1", 1, 7);
    }

    private static void faultTwo() {
        CHECK.sentence("Terms 1", "2 one that can, but is too much: a NUMBER of 4 digits or more, or not as told");
        String[] tooLong = {"0001", "1000", "9999", "00000", "4294967298", "18446744073709551618", "2".repeat(100)};
        for (int at = 0; at < ALL_LINES.length(); at++) {
            if (Character.isDigit(ALL_LINES.charAt(at))) {
                for (String number : tooLong) {
                    bad(ALL_LINES.substring(0, at) + number + ALL_LINES.substring(at + 1), 2, at);
                }
                bad(ALL_LINES.substring(0, at) + "100" + ALL_LINES.substring(at + 1), 2, at);
            }
        }

        CHECK.sentence("Terms 1", "an X, Y beyond THE FLAT");
        for (String line : new String[] {"tower # 1 0;", "plain # 1;", "mirage #;", "camel # 1;", "child # 1;"}) {
            String ahead = line.substring(0, line.indexOf('#'));
            String behind = line.substring(line.indexOf('#') + 1);
            numberFromTo(ahead, 0, 5, " 0" + behind);
            numberFromTo(ahead + "0 ", 0, 5, behind);
            numberFromTo("flat 2 10;" + ahead, 0, 1, " 9" + behind);
            numberFromTo("flat 2 10;" + ahead + "1 ", 0, 9, behind);
            numberFromTo("flat 10 2;" + ahead, 0, 9, " 1" + behind);
            numberFromTo("flat 10 2;" + ahead + "9 ", 0, 1, behind);
        }

        CHECK.sentence("Terms 1", "the first TOKEN of the 6th TOWER, the 5th WALKER");
        bad(FIVE_TOWERS, 0, -1);
        bad(FIVE_TOWERS + "  tower", 2, FIVE_TOWERS.length() + 2);
        bad(FIVE_TOWERS + "tower 0 0 1 0;", 2, FIVE_TOWERS.length());
        bad(FOUR_WALKERS, 0, -1);
        bad(FOUR_WALKERS + "\nplain", 2, FOUR_WALKERS.length() + 1);
        bad(FOUR_WALKERS + "camel x", 2, FOUR_WALKERS.length());
        bad(FOUR_WALKERS + FIVE_TOWERS, 0, -1);
    }

    private static void faultsThreeAndFour() {
        CHECK.sentence("Terms 1", "3 'flat' that isn't the first LINE");
        bad("night 1;flat", 3, 8);
        bad("flat 3 3;flat 3 3;", 3, 9);
        bad("flat 3 3;night 1;flat 3 3;", 3, 17);

        CHECK.sentence("Terms 1", "4 Y of a TOWER's CELL that has one, of a MIRAGE told already");
        bad("tower 1 2 1 0;tower 1 2 1 0;", 4, 22);
        bad("tower 1 2 1 0;tower 2 1 1 0;tower 1 1 1 0;tower 2 2 1 0;", 0, -1);
        bad("tower 1 2 1 0;tower 2 1 1 0;tower 2 01", 4, 36);
        bad("mirage 5 5;mirage 5 5;", 4, 20);
        bad("mirage 0 0;mirage 1 0;mirage 0 1;mirage 0 0", 4, 42);
        bad("mirage 1 2;tower 1 2 1 0;plain 1 2 1;plain 1 2 1;", 0, -1);
        bad("tower 1 2 1 0;plain 1 2 1;mirage 1 2;", 0, -1);

        CHECK.sentence("Terms 1", "a second 'wind', 'night'");
        bad("wind north 0;wind", 4, 13);
        bad("wind north 1;night 1;wind south 1;", 4, 21);
        bad("night 0;night", 4, 8);
        bad("night 1;wind south 1;night 1;", 4, 21);
    }
}
