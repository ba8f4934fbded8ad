import java.util.function.LongSupplier;

/** Sentences with a boundary case, each with its test: orders (Terms 3), promise 4. */
public final class EdgeOrdersTest {
    private static final Check CHECK = new Check("edges of orders");
    private static final String FIVE = "tower 0 0 1 0;tower 1 0 1 0;tower 2 0 1 0;tower 3 0 1 0;tower 4 0 1 0;";
    private static final String TWO = "tower 0 0 1 0;tower 1 0 1 0;";

    public static void main(String[] args) {
        steps();
        times();
        within();
        withinAnew();
        faultOne();
        faultTwo();
        faultFour();
        tillOneCannotBe();
        twoHundred();
        answers();
        refused();
        CHECK.end();
    }

    private static void due(String what, long want, LongSupplier call) {
        CHECK.due(what, want, call);
    }

    private static void good(String flat, String text, int strokes) {
        SaltBells x = CHECK.with(flat);
        CHECK.same("orders of '" + text + "'", strokes, Check.orders(x, text));
        CHECK.same("fault() of '" + text + "'", -1, x.fault());
        CHECK.count(x, 13, 0);
        CHECK.count(x, 14, 0);
    }

    private static void bad(String flat, String text, int fault, int place) {
        SaltBells x = CHECK.with(flat);
        CHECK.same("orders of '" + text + "'", -1 - fault, Check.orders(x, text));
        CHECK.same("fault() of '" + text + "'", place, x.fault());
        CHECK.count(x, 7, 0);
        CHECK.count(x, 13, 1);
        CHECK.count(x, 14, 0);
    }

    private static void steps() {
        CHECK.sentence("Terms 3", "ORDERS are a TEXT, too (of the tape): STEP*");
        good(TWO, "", 0);
        good(TWO, " \n", 0);
        good(TWO, "ring;ring;ring;", 3);
        good(TWO, " ".repeat(495) + "ring;", 1);
        good(TWO, "ring;".repeat(100), 100);

        CHECK.sentence("Terms 3", "'ring' NUMBER* ';' (these TOWERS, each once at most; none: all are still)");
        good("", "ring;", 1);
        SaltBells x = CHECK.with(FIVE);
        CHECK.same("all, the last first", 1, Check.orders(x, "ring 4 3 2 1 0;"));
        CHECK.same("the first and the last", 1, Check.orders(x, "ring 000 04;"));
        CHECK.same("none", 1, Check.orders(x, "ring;"));
        int[] left = {97, 98, 98, 98, 97};
        for (int t = 0; t < left.length; t++) {
            CHECK.same("left of tower " + t, left[t], x.tower(t, 3));
        }
        CHECK.count(x, 7, 3);
    }

    private static void times() {
        CHECK.sentence("Terms 3", "'again' NUMBER '{' STEP* '}' (1 to 20 times");
        good(TWO, "again 1{ring;}", 1);
        good(TWO, "again 20{ring;}", 20);
        good(TWO, "again 020{ring;ring;}ring;", 41);
        good(TWO, "again 20{}", 0);
        good(TWO, "again 3{}again 2{ring;}again 4{}ring;", 3);
        bad(TWO, "again 0{ring;}", 2, 6);
        bad(TWO, "again 21{ring;}", 2, 6);
        SaltBells x = CHECK.with(TWO);
        CHECK.same("in their order", 7, Check.orders(x, "again 2{ring 0;ring 1;again 1{ring;}}ring 1;"));
        x.undo();
        due("the last", 97, () -> x.tower(1, 3));
        x.undo();
        due("none ahead of it", 97, () -> x.tower(1, 3));
        x.undo();
        due("tower 1 ahead of that", 98, () -> x.tower(1, 3));
        due("tower 0 not yet", 97, () -> x.tower(0, 3));
    }

    private static void within() {
        CHECK.sentence("Terms 3", "at most three within one another)");
        good(TWO, "again 2{again 3{again 4{ring;}}}", 24);
        good(TWO, "again 2{again 2{again 2{}again 2{ring;}again 2{}}again 2{again 2{ring;}}}", 16);
        good(TWO, "again 2{}again 2{}again 2{}again 2{ring;}", 2);
        bad(TWO, "again 2{again 2{again 2{again 2{ring;}}}}", 2, 24);
        bad(TWO, "again 2{again 2{again 2{}again 2{again 2{}}}}", 2, 33);
    }

    private static void withinAnew() {
        CHECK.sentence("Terms 3", "at most three within one another)");
        SaltBells x = CHECK.with(TWO);
        CHECK.same("three that aren't closed", -2, Check.orders(x, "again 2{again 2{again 2{"));
        CHECK.same("they are forgotten", -2, Check.orders(x, "}"));
        CHECK.same("three within", 8, Check.orders(x, "again 2{again 2{again 2{ring;}}}"));
    }

    private static final String ALL_STEPS = "ring 0 1;again 2{ring;again 3{again 4{ring 1;}}}ring 0;";

    private static void faultOne() {
        CHECK.sentence("Terms 3", "FAULTS: 1, 2 as above");
        int depth = 0;
        for (int n = 0; n <= ALL_STEPS.length(); n++) {
            String text = ALL_STEPS.substring(0, n);
            char last = n == 0 ? ';' : ALL_STEPS.charAt(n - 1);
            depth += last == '{' ? 1 : last == '}' ? -1 : 0;
            int word = Tokens.startOfWordCut(ALL_STEPS, n);
            SaltBells x = CHECK.with(TWO);
            boolean whole = depth == 0 && (last == ';' || last == '}');
            CHECK.due("'" + text + "' is whole", whole, Check.orders(x, text) >= 0);
            CHECK.same("fault() of '" + text + "'", whole ? -1 : word >= 0 ? word : n, x.fault());
        }
        for (int at = 0; at < ALL_STEPS.length(); at++) {
            if (Tokens.starts(ALL_STEPS, at)) {
                for (String wrong : new String[] {"flat", "x", "?", "\u00e9"}) {
                    bad(TWO, ALL_STEPS.substring(0, at) + " " + wrong, 1, at + 1);
                }
            }
        }
        bad(TWO, ";", 1, 0);
        bad(TWO, "}", 1, 0);
        bad(TWO, "0;", 1, 0);
        bad(TWO, "ring;;", 1, 5);
        bad(TWO, "ring 0{", 1, 6);
        bad(TWO, "ring 0}", 1, 6);
        bad(TWO, "again 2;", 1, 7);
        bad(TWO, "again{", 1, 5);
        bad(TWO, "again 2{;", 1, 8);
        bad(TWO, "again 2{{", 1, 8);
        bad(TWO, "again 2{}}", 1, 9);
        bad(TWO, "again 2{};", 1, 9);
        bad(TWO, "again 2 2{}", 1, 8);
    }

    private static void faultTwo() {
        CHECK.sentence("Terms 3", "2: a NUMBER of 4 digits or more, no such TOWER, not 1 to 20, the fourth 'again' within");
        for (String number : new String[] {"0000", "0001", "00000000000000000001", "4294967296"}) {
            bad(TWO, "ring " + number + ";", 2, 5);
            bad(TWO, "ring 0 " + number + ";", 2, 7);
            bad(TWO, "again " + number + "{}", 2, 6);
        }
        bad("", "ring 0;", 2, 5);
        bad(TWO, "ring 2;", 2, 5);
        bad(TWO, "ring 1 0 2;", 2, 9);
        bad(TWO, "ring 999;", 2, 5);
        bad(FIVE, "ring 5;", 2, 5);
        good(FIVE, "ring 4;", 1);
        bad(TWO, "again 000{}", 2, 6);
        bad(TWO, "again 999{}", 2, 6);
        bad(TWO, "again 1{again 1{again 1{ again", 2, 25);
        bad(TWO, "again 1{again 1{again 1{}}}again 1{again 1{again 1{again", 2, 51);
    }

    private static void faultFour() {
        CHECK.sentence("Terms 3", "4 a TOWER twice in one STEP.");
        bad(TWO, "ring 0 0;", 4, 7);
        bad(TWO, "ring 1 0 01;", 4, 9);
        bad(TWO, "ring 1 0 001", 4, 9);
        bad(FIVE, "ring 4 3 2 1 0 4;", 4, 15);
        bad(TWO, "again 2{ring 1;ring 1 1;}", 4, 22);
        good(TWO, "ring 0;ring 0;ring 1 0;ring 0 1;", 4);
    }

    private static void tillOneCannotBe() {
        CHECK.sentence("Terms 3", "They are done STROKE by STROKE, till one can't be (STATUS 1)");
        SaltBells x = CHECK.with("tower 0 0 1 0 strokes 3;tower 5 0 9 0;plain 0 0 9;");
        CHECK.same("three can be", 7, Check.orders(x, "again 20{ring 1;ring 0;}ring;"));
        CHECK.count(x, 7, 7);
        CHECK.count(x, 14, 1);
        CHECK.count(x, 13, 0);
        CHECK.count(x, 9, 1);
        due("the one that can't be takes none", 95, () -> x.tower(1, 3));
    }

    private static void twoHundred() {
        CHECK.sentence("Terms 3", "or 200 were done");
        SaltBells x = CHECK.with("tower 0 0 1 0 strokes 1;camel 5 5 0;");
        CHECK.same("200", 200, Check.orders(x, "again 20{again 10{ring;}}"));
        CHECK.same("201", 200, Check.orders(x, "again 20{again 10{ring;}}ring;"));
        CHECK.same("8000", 200, Check.orders(x, "again 20{again 20{again 20{ring;}}}"));
        due("strokes", 600, () -> x.walker(0, 6));
        x.stroke(1);
        CHECK.same("the 201st isn't tried", 200, Check.orders(x, "again 20{again 10{ring;}}ring 0;"));
        CHECK.count(x, 14, 0);
        CHECK.same("the 200th can't be", 199, Check.orders(x, "again 11{again 18{ring;}}ring;ring 0;ring;"));
        CHECK.count(x, 14, 1);
        bad(TWO, "again 20{again 20{ring;}}ring 2;", 2, 30);
    }

    private static void answers() {
        CHECK.sentence("Promise 4", "The tape's first n bytes are ORDERS, done at once: how many STROKES were");
        good(TWO, "", 0);
        good(TWO, "again 20{again 20{again 20{}}}", 0);
        good(TWO, "ring;ring 0;again 2{ring 1;}", 4);
        SaltBells x = CHECK.with("tower 0 0 9 0;plain 2 0 9;");
        x.search();
        CHECK.same("two", 2, Check.orders(x, "ring 0;ring 0;"));
        CHECK.count(x, 7, 2);
        CHECK.count(x, 9, 1);
        CHECK.count(x, 12, 0);
        due("why", 0, () -> x.why(0, 1));
        due("search goes on", 36 - 6, () -> x.cases(-1));
        x.undo();
        CHECK.same("of none", 0, Check.orders(x, " "));
        CHECK.count(x, 8, 1);
        CHECK.same("of one", 1, Check.orders(x, "ring;"));
        CHECK.count(x, 8, 0);

        CHECK.sentence("Promise 4", "with a FAULT none, and less than 0: NONE less the FAULT.");
        SaltBells y = CHECK.with("tower 0 0 9 0;plain 2 0 9;");
        y.ring(1, 1);
        y.stroke(0);
        y.undo();
        CHECK.same("fault 1", -2, Check.orders(y, "ring 0;ring 0;x"));
        CHECK.same("fault 2", -3, Check.orders(y, "ring 0;ring 0;ring 1;"));
        CHECK.same("fault 4", -5, Check.orders(y, "ring 0;ring 0;ring 0 0;"));
        CHECK.counts(y, 6, 6, 1, 1, 0, 0, 0, 1, 1, 0, 0, 0, 0, 3, 0);
        CHECK.walker(y, 0, 0, 1, 8, 3, 0, 0, 1);
    }

    private static void refused() {
        CHECK.sentence("Promise 4", "IllegalArgumentException likewise.");
        SaltBells x = CHECK.with(TWO);
        CHECK.same("a fault", -2, Check.orders(x, "ring;ring"));
        due("orders(1) of no tape", Check.ILLEGAL, () -> x.orders(1));
        Check.feed(x, "ring;}");
        for (int n : new int[] {-1, 21, Integer.MIN_VALUE, Integer.MAX_VALUE}) {
            due("orders(" + n + ")", Check.ILLEGAL, () -> x.orders(n));
        }
        CHECK.count(x, 12, 20);
        CHECK.count(x, 13, 1);
        CHECK.count(x, 7, 0);
        due("the place stays", 9, x::fault);
        due("the first five", 1, () -> x.orders(5));
        Check.feed(x, "ring 01;");
        due("a number cut off", -2, () -> x.orders(6));
        due("its place", 6, x::fault);
        CHECK.count(x, 12, 0);
        due("orders(0) of no tape", 0, () -> x.orders(0));
    }
}
