import java.util.function.LongSupplier;

/** Promises 1 to 6: a new object, the tape, flats, orders, their faults, the counts. */
public final class TextTest {
    private static final Check CHECK = new Check("texts");

    public static void main(String[] args) {
        newObject();
        tape();
        goodFlats();
        faultsOfFlats();
        whatAFaultLeaves();
        whatAFlatEnds();
        statusStaysByFlats();
        secondFlats();
        goodOrders();
        faultsOfOrders();
        CHECK.end();
    }

    private static void due(String what, long want, LongSupplier call) {
        CHECK.due(what, want, call);
    }

    private static void newObject() {
        SaltBells x = new SaltBells();
        int[] counts = {6, 6, 0, 0, 0, 0, 0, 0, 0, 0, 0, 0, 0, 0, 0};
        for (int i = 0; i < counts.length; i++) {
            int what = i;
            due("new count(" + what + ")", counts[what], () -> x.count(what));
        }
        due("count(-1)", Check.NO_SUCH, () -> x.count(-1));
        due("count(15)", Check.NO_SUCH, () -> x.count(15));
        due("count(least)", Check.NO_SUCH, () -> x.count(Integer.MIN_VALUE));
        due("new fault()", -1, x::fault);
        due("new tower(0, 0)", Check.NO_SUCH, () -> x.tower(0, 0));
        due("new heard(35)", 0, () -> x.heard(35));
        due("new heard(36)", Check.NO_SUCH, () -> x.heard(36));
    }

    private static void tape() {
        SaltBells x = new SaltBells();
        for (int i = 1; i <= 25; i++) {
            due("feed " + i, 20 * i, () -> x.feed(0x20202020, 0x20202020, 0x20202020, 0x20202020, 0x20202020));
        }
        due("feed beyond 500", -1, () -> x.feed(1, 2, 3, 4, 5));
        due("count(12) full", 500, () -> x.count(12));
        due("flat(501)", Check.ILLEGAL, () -> x.flat(501));
        due("flat(-1)", Check.ILLEGAL, () -> x.flat(-1));
        due("orders(501)", Check.ILLEGAL, () -> x.orders(501));
        due("orders(-1)", Check.ILLEGAL, () -> x.orders(-1));
        due("count(12) after refused calls", 500, () -> x.count(12));
        due("count(13) after refused calls", 0, () -> x.count(13));
        due("flat of 500 blanks", 0, () -> x.flat(500));
        due("count(12) empty", 0, () -> x.count(12));
        due("flat(0) of no tape", 0, () -> x.flat(0));
        due("flat(1) of no tape", Check.ILLEGAL, () -> x.flat(1));
        // 'wind', the highest byte of each number first.
        x.feed(0x77696E64, 0x20776573, 0x7420333B, 0x7B7B7B7B, 0x7B7B7B7B);
        due("flat(12), what is behind it is gone", 0, () -> x.flat(12));
        due("wind", 3, () -> x.count(4));
        due("strength", 3, () -> x.count(5));
        due("tape", 0, () -> x.count(12));
    }

    private static void goodFlats() {
        SaltBells x = CHECK.with("flat 10 2 ;\ntower9 1 20 3strokes 1false;tower 0 0 001 000;camel 9 0 99;\n"
            + "child 0 1 0;fearful 1 1 5;stubborn 2 1 5;wind west 3;night 9;mirage 0 0;mirage 9 1;");
        int[] counts = {10, 2, 2, 4, 3, 3, 9};
        for (int i = 0; i < counts.length; i++) {
            int what = i;
            due("told count(" + what + ")", counts[what], () -> x.count(what));
        }
        int[] tower = {19, 20, 3, 1, 1};
        int[] other = {0, 1, 0, 99, 0};
        for (int i = 0; i < tower.length; i++) {
            int what = i;
            due("tower(0, " + what + ")", tower[what], () -> x.tower(0, what));
            due("tower(1, " + what + ")", other[what], () -> x.tower(1, what));
        }
        CHECK.walker(x, 0, 4, 9, 99, 0, 0, -1, 0);
        CHECK.walker(x, 1, 3, 10, 0, 0, 0, -1, 0);
        CHECK.walker(x, 2, 2, 11, 5, 0, 0, -1, 0);
        CHECK.walker(x, 3, 1, 12, 5, 0, 0, -1, 0);
        CHECK.with("plain 3 3 0;plain 3 3 0;tower 3 3 1 0;mirage 3 3;");
        CHECK.with("wind north 0;night 0;");
        CHECK.with("tower 0 0 1 0 strokes 99;tower 0 1 1 0 strokes 1 false;tower 0 2 1 0 false;tower 0 3 1 0;tower 1 3 1 0;");
    }

    private static void bad(String text, int fault, int place) {
        SaltBells x = new SaltBells();
        CHECK.same("flat of '" + text + "'", fault, Check.flat(x, text));
        due("fault() of '" + text + "'", place, x::fault);
        due("count(13) of '" + text + "'", 1, () -> x.count(13));
        due("tape after '" + text + "'", 0, () -> x.count(12));
    }

    private static void faultsOfFlats() {
        bad("night 1", 1, 7);
        bad("night 1  ", 1, 9);
        bad("night", 1, 5);
        bad(";", 1, 0);
        bad("night 1;;", 1, 8);
        bad("night 1;X", 1, 8);
        bad("night 1;\u0080", 1, 8);
        bad("night\t1;", 1, 5);
        bad("nights 1;", 1, 0);
        bad("nightz 1;", 1, 0);
        bad("zight 1;", 1, 0);
        bad("might 1;", 1, 0);
        bad("night 1;z", 1, 8);
        bad("night 1;night`", 4, 8);
        bad("nightnight 1;", 1, 0);
        bad("night one;", 1, 6);
        bad("night 1 2;", 1, 8);
        bad("night 10;", 2, 6);
        bad("night 0001;", 2, 6);
        bad("night 99999999999;", 2, 6);
        bad("night 4294967297;", 2, 6);
        bad("night 1;night;", 4, 8);
        bad("wind up 1;", 1, 5);
        bad("wind north 4;", 2, 11);
        bad("wind north 1;wind north 1;", 4, 13);
        bad("wind 1;", 1, 5);
        bad("flat 1 2;", 2, 5);
        bad("flat 11 2;", 2, 5);
        bad("flat 2 1;", 2, 7);
        bad("flat 2 11;", 2, 7);
        bad("flat 2;", 1, 6);
        bad("night 1;flat 0;", 3, 8);
        bad("flat 2 2;flat 2 2;", 3, 9);
        bad("flat flat;", 1, 5);
        bad("flat 3 2;plain 3 0 1;", 2, 15);
        bad("flat 3 2;plain 0 2 1;", 2, 17);
        bad("plain 0 0 100;", 2, 10);
        bad("plain 0 0;", 1, 9);
        bad("tower 0 0 0 0;", 2, 10);
        bad("tower 0 0 21 0;", 2, 10);
        bad("tower 0 0 1 4;", 2, 12);
        bad("tower 0 0 1 0 strokes 0;", 2, 22);
        bad("tower 0 0 1 0 strokes 100;", 2, 22);
        bad("tower 0 0 1 0 strokes;", 1, 21);
        bad("tower 0 0 1 0 false false;", 1, 20);
        bad("tower 0 0 1 0 false strokes 3;", 1, 20);
        bad("tower 0 0 1 0 strokes 3 strokes 3;", 1, 24);
        bad("tower 1 0 1 0;tower 1 0 0 9;", 4, 22);
        bad("tower 1 0 1 0;tower 1 6 0 9;", 2, 22);
        bad("mirage 1 0;mirage 1 0;", 4, 20);
        bad("mirage 1 0 0;", 1, 11);
        bad("{night 1;}", 1, 0);
        String five = "tower 0 0 1 0;tower 1 0 1 0;tower 2 0 1 0;tower 3 0 1 0;tower 4 0 1 0;";
        CHECK.with(five);
        bad(five + "tower;", 2, 70);
        String four = "plain 0 0 1;child 0 0 1;camel 0 0 1;fearful 0 0 1;";
        CHECK.with(four);
        bad(four + "stubborn", 2, 50);
    }

    private static void whatAFaultLeaves() {
        SaltBells x = CHECK.with("tower 2 3 4 0;plain 5 3 9;");
        x.search();
        x.best(1);
        x.image();
        x.stroke(1);
        CHECK.same("a flat with a fault", 2, Check.flat(x, "flat 2 2;tower 1 1 1 0;tower 9 9 1 1;"));
        due("count(0)", 6, () -> x.count(0));
        due("count(7)", 1, () -> x.count(7));
        due("walker(0, 1)", 22, () -> x.walker(0, 1));
        due("far(0, 23)", 12, () -> x.far(0, 23));
        due("plan(0)", 0, () -> x.plan(0));
        due("cases(-1) goes on", 35 - 4, () -> x.cases(-1));
        due("restore()", 1, () -> x.restore() ? 1 : 0);
    }

    private static void whatAFlatEnds() {
        SaltBells x = CHECK.with("tower 2 3 4 0;plain 5 3 9;");
        x.stroke(9);
        x.stroke(0);
        x.stroke(0);
        x.undo();
        x.search();
        x.best(1);
        x.image();
        CHECK.same("orders with a fault", -2, Check.orders(x, "x"));
        CHECK.same("a second flat", 0, Check.flat(x, "night 2;"));
        for (int what = 7; what <= 12; what++) {
            int asked = what;
            due("count(" + what + ") of a second flat", 0, () -> x.count(asked));
        }
        due("fault()", -1, x::fault);
        due("cases(-1)", -1, () -> x.cases(-1));
        due("plan(0)", Check.NO_SUCH, () -> x.plan(0));
        due("restore()", 0, () -> x.restore() ? 1 : 0);
        due("tower(0, 0)", Check.NO_SUCH, () -> x.tower(0, 0));
        due("walker(0, 0)", Check.NO_SUCH, () -> x.walker(0, 0));
    }

    private static void statusStaysByFlats() {
        SaltBells x = new SaltBells();
        x.stroke(1);
        x.ring(-1, 200);
        CHECK.same("a flat with a fault", 1, Check.flat(x, "x"));
        CHECK.same("a flat", 0, Check.flat(x, "tower 2 3 4 0 strokes 1;"));
        status("by a flat", x, 1, 2);
        CHECK.same("orders with a fault", -2, Check.orders(x, "x"));
        CHECK.same("orders till one can't be", 1, Check.orders(x, "ring 0;ring 0;"));
        status("goes on from there", x, 2, 3);
        x.image();
        CHECK.same("a second fault", 2, Check.flat(x, "night 10;"));
        x.stroke(1);
        status("behind the image", x, 3, 4);
        x.restore();
        status("as in the image", x, 2, 3);
        CHECK.same("a second flat", 0, Check.flat(x, ""));
        status("by a second flat", x, 2, 3);
        CHECK.same("a third flat", 0, Check.flat(x, "night 9;"));
        due("no image is left", 0, () -> x.restore() ? 1 : 0);
        status("by a third flat", x, 2, 3);
        x.image();
        x.stroke(1);
        x.restore();
        status("as in an image of the third flat", x, 2, 3);
    }

    private static void status(String when, SaltBells x, int texts, int strokes) {
        due("status 0 " + when, texts, () -> x.count(13));
        due("status 1 " + when, strokes, () -> x.count(14));
    }

    private static void secondFlats() {
        SaltBells x = CHECK.with("flat 8 9;wind south 2;night 3;mirage 5 3;mirage 0 0;tower 0 0 9 0;tower 1 0 9 1;plain 5 3 9;");
        x.ring(3, 3);
        CHECK.same("a second flat", 0, Check.flat(x, "tower 2 3 4 0;plain 5 3 9;tower 2 4 9 2;"));
        int[] counts = {6, 6, 2, 1, 0, 0, 0};
        for (int i = 0; i < counts.length; i++) {
            int what = i;
            due("second count(" + what + ")", counts[what], () -> x.count(what));
        }
        CHECK.walker(x, 0, 0, 23, 9, 0, 0, -1, 0);
        x.stroke(1);
        CHECK.walker(x, 0, 0, 22, 8, 3, 0, 0, 1);
        CHECK.same("a third flat", 0, Check.flat(x, "wind south 2;night 3;mirage 5 3;mirage 0 0;"));
        due("wind", 2, () -> x.count(4));
        CHECK.same("a fault", 1, Check.flat(x, "wind west 2;night 4;mirage 1 1;tower 1 1 1 0;child 1 1 1;x"));
        CHECK.same("told once since", 0, Check.flat(x, "wind west 2;night 4;mirage 1 1;tower 1 1 1 0;child 1 1 1;"));
    }

    private static void goodOrders() {
        SaltBells x = CHECK.with("tower 2 3 4 0 strokes 3;tower 0 0 4 0;");
        CHECK.same("orders of none", 0, Check.orders(x, " \n"));
        CHECK.same("rings", 2, Check.orders(x, "ring1 0;ring;"));
        due("strokes left", 2, () -> x.tower(0, 3));
        due("strokes left", 98, () -> x.tower(1, 3));
        CHECK.same("again within again", 2 + 3 * 2, Check.orders(x, "ring 1;again 3{again 2{ring;}}again 20{}ring 0;"));
        due("strokes left", 1, () -> x.tower(0, 3));
        CHECK.same("till one can't be", 2 + 2, Check.orders(x, "again 9{ring;ring 1 0;ring;}ring;"));
        due("status 1", 1, () -> x.count(14));
        due("status 0", 0, () -> x.count(13));
        due("fault()", -1, x::fault);
        CHECK.same("once again", 1, Check.orders(x, "again 1{ring;}"));
        CHECK.same("20 times", 20, Check.orders(x, "again 20{ring 1;}"));
        CHECK.same("an again that isn't closed", -2, Check.orders(x, "again 20{again 3{"));
        CHECK.same("is forgotten", -2, Check.orders(x, "}"));
        CHECK.same("200 and no more", 200, Check.orders(x, "again 20{again 5{ring;ring;}}ring 0;"));
        due("the 201st wasn't tried", 1, () -> x.count(14));
        CHECK.same("200 in the midst", 200, Check.orders(x, "again 7{again 7{again 7{ring;}}}"));
    }

    private static void badOrders(String text, int fault, int place) {
        SaltBells x = CHECK.with("tower 2 3 4 0;tower 0 0 4 0;");
        CHECK.same("orders of '" + text + "'", -1 - fault, Check.orders(x, text));
        due("fault() of '" + text + "'", place, x::fault);
        due("count(13) of '" + text + "'", 1, () -> x.count(13));
        due("count(7) of '" + text + "'", 0, () -> x.count(7));
        due("count(12) of '" + text + "'", 0, () -> x.count(12));
    }

    private static void faultsOfOrders() {
        badOrders("ring 0;ring 2;", 2, 12);
        badOrders("ring 0;ring 0 1 0;", 4, 16);
        badOrders("ring 0;ring 0 1 2;", 2, 16);
        badOrders("ring 0000;", 2, 5);
        badOrders("ring 0 ring;", 1, 7);
        badOrders("ring", 1, 4);
        badOrders("ring 0;}", 1, 7);
        badOrders("rings;", 1, 0);
        badOrders("again 0{}", 2, 6);
        badOrders("again 21{}", 2, 6);
        badOrders("again {}", 1, 6);
        badOrders("again 2 ring;}", 1, 8);
        badOrders("again 2{ring;", 1, 13);
        badOrders("again 2{ring;};", 1, 14);
        badOrders("again 2{again 2{again 2{ring;}again 2{}again 2{again", 2, 47);
        badOrders("again 2{again 2{again 2{}}}again 2{{", 1, 35);
        badOrders(";", 1, 0);
    }
}
