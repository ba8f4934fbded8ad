import java.lang.management.ManagementFactory;
import java.lang.reflect.Array;
import java.lang.reflect.Field;
import java.lang.reflect.Modifier;
import java.util.Collections;
import java.util.IdentityHashMap;
import java.util.Set;

/** All calls of a run live in one room: an object is small, and its calls make nothing that is kept or thrown away. */
public final class RoomTest {
    private static final int MOST_OBJECTS = 100;
    private static final int MOST_ELEMENTS = 20000;
    private static final String FLAT = "flat 10 10;tower 1 1 9 0;tower 8 1 9 1 strokes 5;tower 4 8 9 0;"
        + "plain 0 0 99;child 9 9 99;stubborn 0 9 99;camel 5 5 0;wind west 2;mirage 3 3;mirage 4 4;";

    private static final Check CHECK = new Check("room");

    private final Set<Object> met = Collections.newSetFromMap(new IdentityHashMap<>());
    private int elements;

    public static void main(String[] args) throws IllegalAccessException {
        RoomTest room = new RoomTest();
        SaltBells x = CHECK.with(FLAT);
        allCalls(x);
        CHECK.count(x, 2, 1);
        CHECK.count(x, 3, 1);
        room.walkThrough(x);
        CHECK.due("objects and arrays: " + room.met.size(), true, room.met.size() <= MOST_OBJECTS);
        CHECK.due("fields and elements: " + room.elements, true, room.elements <= MOST_ELEMENTS);
        compareBytes();
        CHECK.end();
    }

    private void walkThrough(Object one) throws IllegalAccessException {
        if (one == null || one instanceof String || !met.add(one)) {
            return;
        }
        if (one.getClass().isArray()) {
            elements += Array.getLength(one);
            for (int i = 0; i < Array.getLength(one) && one instanceof Object[]; i++) {
                walkThrough(Array.get(one, i));
            }
            return;
        }
        for (Field field : one.getClass().getDeclaredFields()) {
            if (!Modifier.isStatic(field.getModifiers())) {
                elements++;
                field.setAccessible(true);
                if (!field.getType().isPrimitive()) {
                    walkThrough(field.get(one));
                }
            }
        }
    }

    private static void compareBytes() {
        if (!(ManagementFactory.getThreadMXBean() instanceof com.sun.management.ThreadMXBean counter)
            || !counter.isThreadAllocatedMemorySupported()) {
            return;
        }
        SaltBells x = CHECK.with(FLAT);
        long least = Long.MAX_VALUE;
        // The machine itself makes things now and then; of several times the one with the fewest tells what the calls do.
        for (int time = 0; time < 20; time++) {
            long before = counter.getCurrentThreadAllocatedBytes();
            allCalls(x);
            least = Math.min(least, counter.getCurrentThreadAllocatedBytes() - before);
        }
        CHECK.same("bytes that the calls make", 0, least);
    }

    /** Each call of the face, with arguments by which none throws. */
    private static void allCalls(SaltBells x) {
        // "flat 9 9;tower 2 3 9" and "1;plain 7 7 9;      "
        x.feed(0x666C6174, 0x20392039, 0x3B746F77, 0x65722032, 0x20332039);
        x.feed(0x20313B70, 0x6C61696E, 0x20372037, 0x20393B20, 0x20202020);
        x.flat(40);
        x.search();
        x.ring(1, 5);
        x.undo();
        x.redo();
        x.image();
        // "again 9 { ring 0;}  "
        x.feed(0x61676169, 0x6E203920, 0x7B207269, 0x6E672030, 0x3B7D2020);
        x.orders(20);
        x.restore();
        x.stroke(1);
        x.stroke(-1);
        x.night(5, 100);
        x.best(4);
        x.plan(3);
        x.worth(0, 4);
        x.forever(0, 1, 1);
        x.seen(1, true, true);
        x.odds(1, 1);
        x.cases(1);
        x.why(0, 0);
        x.far(0, 1);
        x.heard(1);
        x.tower(0, 3);
        x.walker(0, 6);
        x.count(14);
        x.fault();
    }
}
