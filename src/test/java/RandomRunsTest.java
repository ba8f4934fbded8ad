import java.nio.charset.StandardCharsets;
import java.util.Random;
import java.util.function.LongSupplier;

/** Runs of calls drawn by seeds: the program answers as the model does, and throws nothing else. */
public final class RandomRunsTest {
    private static final String[] KINDS = {"plain", "stubborn", "fearful", "child", "camel"};
    private static final String[] WINDS = {"north", "east", "south", "west"};
    private static final int RUNS = 1500;
    private static final int CALLS = 300;

    private final Check check;
    private final Random random;
    private final int seed;
    private final SaltBells x = new SaltBells();
    private final Model m = new Model();
    private final StringBuilder log = new StringBuilder();
    private int width = 6;
    private int height = 6;
    private boolean agree = true;

    private RandomRunsTest(Check check, int seed) {
        this.check = check;
        this.seed = seed;
        this.random = new Random(seed);
    }

    public static void main(String[] args) {
        Check check = new Check("random runs");
        for (int seed = 0; seed < RUNS; seed++) {
            new RandomRunsTest(check, seed).run();
        }
        check.end();
    }

    private void run() {
        int spent = 0;
        for (int i = 0; i < 5 && agree && m.count(2) * m.count(3) == 0; i++) {
            spent += text(one(3) ? flat() : crowded(), true);
        }
        while (spent < CALLS && agree) {
            spent += part();
        }
        if (!agree) {
            System.out.println("run " + seed + ":" + log);
        }
    }

    private int in(int low, int high) {
        return low + random.nextInt(high - low + 1);
    }

    private boolean one(int of) {
        return random.nextInt(of) == 0;
    }

    private void both(String call, LongSupplier program, LongSupplier model) {
        long want = Check.answer(model);
        long got = Check.answer(program);
        log.append("\n  ").append(call).append(" -> ").append(want);
        if (want != got && agree) {
            agree = false;
            check.same("run " + seed + ": " + call, want, got);
        }
    }

    private int part() {
        switch (in(0, 13)) {
            case 0: return text(one(6) ? orders() : one(3) ? flat() : crowded(), true);
            case 1: return text(one(20) ? flat() : orders(), false);
            case 2:
            case 3:
            case 4: return strokes();
            case 5: return plans();
            case 6: return searches();
            case 7: return lookAtAll();
            case 8: return images();
            default: return look();
        }
    }

    private int text(String text, boolean flat) {
        String mutated = one(4) ? mutate(text) : text;
        byte[] bytes = mutated.getBytes(StandardCharsets.ISO_8859_1);
        int calls = 2;
        for (int at = 0; at < bytes.length; at += 20) {
            int[] five = new int[5];
            for (int i = 0; i < 20; i++) {
                five[i / 4] = five[i / 4] << 8 | (at + i < bytes.length ? bytes[at + i] & 255 : 32);
            }
            both("feed", () -> x.feed(five[0], five[1], five[2], five[3], five[4]), () -> m.feed(five));
            calls++;
        }
        int n = one(10) ? in(-1, bytes.length + 25) : bytes.length;
        both("count(12)", () -> x.count(12), () -> m.count(12));
        if (flat) {
            both("flat '" + mutated + "' " + n, () -> x.flat(n), () -> m.flat(n));
            width = m.count(0);
            height = m.count(1);
        } else {
            both("orders '" + mutated + "' " + n, () -> x.orders(n), () -> m.orders(n));
        }
        both("fault", x::fault, m::fault);
        return calls;
    }

    private String mutate(String text) {
        StringBuilder s = new StringBuilder(text);
        int at = s.length() == 0 ? 0 : in(0, s.length() - 1);
        switch (in(0, 5)) {
            case 0: s.insert(at, "0;{} \nax".charAt(in(0, 7))); break;
            case 1: s.insert(at, (char) in(0, 255)); break;
            case 2: s.insert(at, in(0, 2000)); break;
            case 3: s.setLength(at); break;
            case 4:
                if (s.length() > 0) {
                    s.deleteCharAt(at);
                }
                break;
            default:
                s.append(s.substring(at));
        }
        return s.length() > 500 ? s.substring(0, 500) : s.toString();
    }

    private String flat() {
        StringBuilder s = new StringBuilder();
        int w = 6;
        int h = 6;
        if (one(2)) {
            w = in(2, 10);
            h = in(2, 10);
            s.append("flat ").append(w).append(' ').append(h).append(';');
        }
        for (int i = in(0, 12); i > 0; i--) {
            line(s, w, h);
        }
        return s.toString();
    }

    /** A flat with no fault, most often, and with towers and walkers near one another. */
    private String crowded() {
        int w = in(2, one(3) ? 10 : 6);
        int h = in(2, one(3) ? 10 : 6);
        StringBuilder s = new StringBuilder("flat " + w + " " + h + ";");
        for (int i = in(1, 5); i > 0; i--) {
            tower(s, cell(w, h));
        }
        for (int i = in(1, 4); i > 0; i--) {
            walker(s, cell(w, h));
        }
        for (int i = in(0, 3); i > 0; i--) {
            s.append("mirage").append(cell(w, h)).append(';');
        }
        s.append(one(3) ? "wind " + WINDS[in(0, 3)] + in(0, 3) + ";" : "");
        s.append(one(3) ? "night " + in(0, 3) + ";" : "");
        return s.toString();
    }

    private String cell(int w, int h) {
        return " " + in(0, one(90) ? w : w - 1) + " " + in(0, one(90) ? h : h - 1) + " ";
    }

    private void tower(StringBuilder s, String cell) {
        s.append("tower").append(cell).append(in(1, one(3) ? 20 : 6)).append(' ').append(in(0, one(60) ? 4 : 2));
        s.append(one(2) ? " strokes " + in(1, one(3) ? 99 : 4) : "").append(one(4) ? " false" : "").append(';');
    }

    private void walker(StringBuilder s, String cell) {
        s.append(KINDS[in(0, 4)]).append(cell).append(in(0, one(2) ? 99 : 9)).append(';');
    }

    private void line(StringBuilder s, int w, int h) {
        String cell = cell(w, h);
        switch (in(0, 6)) {
            case 0:
            case 1:
            case 2:
                tower(s, cell);
                return;
            case 3:
            case 4:
                walker(s, cell);
                return;
            case 5:
                s.append("mirage").append(cell);
                break;
            default:
                s.append(one(2) ? "night " + in(0, 9) : "wind " + WINDS[in(0, 3)] + in(0, 3));
        }
        s.append(one(9) ? " ;\n" : ";");
    }

    private String orders() {
        StringBuilder s = new StringBuilder();
        steps(s, 0);
        return s.length() > 500 ? s.substring(0, 500) : s.toString();
    }

    private void steps(StringBuilder s, int within) {
        for (int i = in(0, 4); i > 0; i--) {
            if (within < (one(20) ? 4 : 3) && one(2)) {
                s.append("again").append(one(2) ? " " : "").append(in(1, one(30) ? 21 : 20)).append('{');
                steps(s, within + 1);
                s.append('}');
            } else {
                s.append("ring");
                for (int t = 0; t < m.count(2); t++) {
                    s.append(one(3) ? " " + t : "");
                }
                s.append(one(40) ? " " + in(0, 5) : "").append(";");
            }
        }
    }

    private int set() {
        return one(30) ? random.nextInt() : in(0, one(20) ? 63 : (1 << m.count(2)) - 1);
    }

    private int strokes() {
        int set = set();
        int many = one(20) ? in(-1, 201) : in(0, 9);
        int drawn = random.nextInt();
        switch (in(0, 5)) {
            case 0:
            case 1: both("stroke " + set, () -> x.stroke(set), () -> m.stroke(set)); break;
            case 2: both("ring " + set + " " + many, () -> x.ring(set, many), () -> m.ring(set, many)); break;
            case 3: both("undo", () -> x.undo() ? 1 : 0, () -> m.undo() ? 1 : 0); break;
            case 4: both("redo", () -> x.redo() ? 1 : 0, () -> m.redo() ? 1 : 0); break;
            default: both("night " + drawn + " " + many, () -> x.night(drawn, many), () -> m.night(drawn, many));
        }
        return 1;
    }

    private int plans() {
        int n = one(20) ? in(-1, 6) : one(3) ? in(3, 4) : in(1, 2);
        int t = in(one(9) ? -1 : 0, Math.max(0, m.count(2) - (one(9) ? 0 : 1)));
        if (one(2)) {
            both("best " + n, () -> x.best(n), () -> m.best(n));
        } else {
            both("worth " + t + " " + n, () -> x.worth(t, n), () -> m.worth(t, n));
        }
        for (int i = -1; i < 5; i++) {
            int at = i;
            both("plan " + at, () -> x.plan(at), () -> m.plan(at));
        }
        return 7;
    }

    private int cell() {
        return in(one(9) ? -2 : 0, width * height - (one(9) ? 0 : 1));
    }

    private int searches() {
        int line = in(one(20) ? -1 : 0, one(20) ? 10 : Math.min(width, height) - 1);
        boolean row = one(2);
        boolean not = !one(4);
        if (m.cases(-1) < 1 ? !one(4) : one(4)) {
            both("search", x::search, m::search);
        } else {
            both("seen " + line + row + not, () -> x.seen(line, row, not), () -> m.seen(line, row, not));
        }
        for (int i = 0; i < 4; i++) {
            int cell = cell();
            int what = one(20) ? in(-1, 2) : in(0, 1);
            both("cases " + cell, () -> x.cases(cell), () -> m.cases(cell));
            both("odds " + cell + " " + what, () -> x.odds(cell, what), () -> m.odds(cell, what));
        }
        both("cases -1", () -> x.cases(-1), () -> m.cases(-1));
        return 10;
    }

    private int images() {
        if (one(2)) {
            both("image", () -> { x.image(); return 0; }, () -> { m.image(); return 0; });
        } else {
            both("restore", () -> x.restore() ? 1 : 0, () -> m.restore() ? 1 : 0);
        }
        return 1;
    }

    private int look() {
        int t = one(20) ? in(-1, 5) : in(0, Math.max(0, m.count(2) - 1));
        int w = one(20) ? in(-1, 4) : in(0, Math.max(0, m.count(3) - 1));
        int b = in(one(9) ? -1 : 0, one(9) ? 8 : 6);
        int cell = cell();
        int set = set();
        int past = in(one(9) ? -1 : 0, m.count(7));
        int what = one(20) ? in(-1, 2) : in(0, 1);
        both("tower " + t + " " + b, () -> x.tower(t, b), () -> m.tower(t, b));
        both("walker " + w + " " + b, () -> x.walker(w, b), () -> m.walker(w, b));
        both("far " + t + " " + cell, () -> x.far(t, cell), () -> m.far(t, cell));
        both("heard " + cell, () -> x.heard(cell), () -> m.heard(cell));
        both("why " + w + " " + past, () -> x.why(w, past), () -> m.why(w, past));
        both("forever " + w + " " + set + " " + what, () -> x.forever(w, set, what), () -> m.forever(w, set, what));
        return 6;
    }

    private int lookAtAll() {
        for (int i = -1; i < 16; i++) {
            int what = i;
            both("count " + what, () -> x.count(what), () -> m.count(what));
        }
        for (int w = 0; w < m.count(3); w++) {
            for (int i = 0; i < 7; i++) {
                int walker = w;
                int what = i;
                both("walker " + w + " " + what, () -> x.walker(walker, what), () -> m.walker(walker, what));
            }
        }
        return 30;
    }
}
