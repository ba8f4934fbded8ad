import java.lang.reflect.InvocationTargetException;
import java.lang.reflect.Method;
import java.lang.reflect.Modifier;
import java.util.ArrayList;
import java.util.Comparator;
import java.util.List;
import java.util.Random;

/** Any arguments in any state: a call throws what its face names or nothing, and changes nothing if it throws. */
public final class AnyArgumentsTest {
    private static final int[] EDGES = {Integer.MIN_VALUE, Integer.MIN_VALUE + 1, -1000000007, -65536, -512, -100, -32,
        -5, -4, -3, -2, -1, 31, 32, 33, 63, 64, 99, 100, 101, 128, 199, 200, 201, 255, 256, 499, 500, 501, 65536, 1 << 30,
        Integer.MAX_VALUE - 1, Integer.MAX_VALUE};
    private static final String[] FLATS = {
        "", "flat 2 2;", "flat 10 10;", "flat 2 10;camel 1 9 0;", "plain 0 0 0;child 5 5 99;fearful 1 1 3;stubborn 2 2 2;",
        "tower 0 0 1 0 strokes 1;plain 0 0 1;", "flat 10 10;tower 9 9 20 3 false;child 0 0 99;mirage 9 8;mirage 8 9;",
        "tower 0 0 20 0;tower 5 5 20 0;tower 0 5 20 1 strokes 2;fearful 3 3 9;stubborn 2 2 9;camel 1 1 0;wind west 3;",
        "flat 3 2;tower 0 0 1 0;tower 1 0 1 1;tower 2 0 1 2;tower 0 1 1 3;tower 1 1 1 0 false;plain 2 1 99;night 9;",
        "flat 10 10;tower 5 5 3 0 strokes 1;tower 1 1 2 1 strokes 1 false;tower 8 2 4 2 strokes 3;"
            + "tower 3 7 5 3 strokes 2;tower 9 9 1 0;stubborn 4 4 50;child 7 7 60;plain 0 9 9;camel 9 0 9;wind north 2;"};
    private static final int RUNS = 300;
    private static final int CALLS = 512;

    private static final Check CHECK = new Check("any arguments");

    private final Random random;
    private final SaltBells x = new SaltBells();
    private final List<Method> calls = new ArrayList<>();

    private AnyArgumentsTest(int seed) {
        random = new Random(seed);
        for (Method method : SaltBells.class.getDeclaredMethods()) {
            if (Modifier.isPublic(method.getModifiers())) {
                calls.add(method);
            }
        }
        calls.sort(Comparator.comparing(Method::getName));
    }

    public static void main(String[] args) throws IllegalAccessException {
        for (int seed = 0; seed < RUNS; seed++) {
            new AnyArgumentsTest(seed).run(FLATS[seed % FLATS.length]);
        }
        CHECK.end();
    }

    private void run(String flat) throws IllegalAccessException {
        CHECK.same("flat of '" + flat + "'", 0, Check.flat(x, flat));
        for (int i = 0; i < CALLS; i++) {
            Method call = calls.get(random.nextInt(calls.size()));
            // A flat of what the tape has by chance is mostly none, but where it is, little is left to try.
            if (!call.getName().equals("flat") || random.nextInt(40) == 0) {
                tryCall(call);
            }
        }
    }

    private void tryCall(Method call) throws IllegalAccessException {
        Object[] values = new Object[call.getParameterCount()];
        StringBuilder told = new StringBuilder(call.getName());
        for (int i = 0; i < values.length; i++) {
            values[i] = call.getParameterTypes()[i] == boolean.class ? (Object) random.nextBoolean() : (Object) number();
            told.append(i == 0 ? "(" : ", ").append(values[i]);
        }
        String before = state();
        try {
            call.invoke(x, values);
        } catch (InvocationTargetException e) {
            Class<?> thrown = e.getCause().getClass();
            CHECK.due(told + " throws " + thrown, true, List.of(call.getExceptionTypes()).contains(thrown));
            CHECK.due(told + " throws, and changes nothing", true, before.equals(state()));
        }
    }

    private int number() {
        switch (random.nextInt(4)) {
            case 0: return EDGES[random.nextInt(EDGES.length)];
            case 1: return random.nextInt();
            default: return random.nextInt(7) - 1;
        }
    }

    /** All that can be seen without a change. */
    private String state() {
        StringBuilder seen = new StringBuilder();
        seen.append(x.fault());
        for (int what = 0; what <= 14; what++) {
            seen.append(' ').append(x.count(what));
        }
        for (int t = 0; t < x.count(2); t++) {
            seen.append(" t").append(x.tower(t, 3));
        }
        for (int w = 0; w < x.count(3); w++) {
            for (int what = 0; what <= 6; what++) {
                seen.append(" w").append(x.walker(w, what));
            }
        }
        for (int cell = -1; cell < x.count(0) * x.count(1); cell++) {
            seen.append(" c").append(x.cases(cell));
        }
        for (int i = 0; i < 4; i++) {
            int asked = i;
            seen.append(" p").append(Check.answer(() -> x.plan(asked)));
        }
        return seen.toString();
    }
}
