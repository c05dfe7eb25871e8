import java.lang.management.ManagementFactory;
import java.lang.reflect.Array;
import java.lang.reflect.Field;
import java.lang.reflect.Modifier;
import java.util.ArrayDeque;
import java.util.Collections;
import java.util.IdentityHashMap;
import java.util.Set;

/** How much of the room one object takes with all its calls. */
public final class RoomTest {
    private static final int CALLS = 512;
    private static final int MOST_OBJECTS = 600_000;
    private static final int MOST_ELEMENTS = 7_300_000;
    private static final int BYTES_OF_OBJECT = 16;
    private static final int BYTES_OF_ELEMENT = 4;
    private static final int TIMES = 2000;

    private final Set<Object> seen = Collections.newSetFromMap(new IdentityHashMap<>());
    private final ArrayDeque<Object> open = new ArrayDeque<>();
    private int elements;

    public static void main(String[] args) throws IllegalAccessException {
        Expect expect = new Expect();
        ValueMill mill = build();
        RoomTest room = new RoomTest();
        room.count(mill);
        System.out.println(room.seen.size() + " objects and arrays, " + room.elements + " fields and elements");
        long made = bytesOfTheDearest(mill);
        expect.due("objects and arrays", room.seen.size() + made / BYTES_OF_OBJECT <= MOST_OBJECTS, true);
        expect.due("fields and elements", room.elements + made / BYTES_OF_ELEMENT <= MOST_ELEMENTS, true);
        if (Inside.isKnown()) {
            // Asking makes some objects of its own, but far from one for each time.
            expect.due("calls make nothing", bytesOfAll(mill) < TIMES * BYTES_OF_OBJECT, true);
        }
        expect.finish();
    }

    /** Runs in few registers, each behind a change, so that all must be made anew. */
    private static long bytesOfTheDearest(ValueMill mill) {
        long before = allocated();
        for (int call = 0; call < CALLS; call += 2) {
            mill.jump(9, call % 10);
            mill.run(3, 2, 500);
        }
        return allocated() - before;
    }

    private static long bytesOfAll(ValueMill mill) {
        useAll(mill);
        long before = allocated();
        for (int time = 0; time < TIMES; time++) {
            useAll(mill);
        }
        return allocated() - before;
    }

    private static long allocated() {
        var threads = (com.sun.management.ThreadMXBean) ManagementFactory.getThreadMXBean();
        return threads.getCurrentThreadAllocatedBytes();
    }

    private static ValueMill build() {
        ValueMill mill = new ValueMill();
        for (int block = 0; block < 10; block++) {
            mill.block();
        }
        for (int block = 0; block < 10; block++) {
            for (int i = 0; i < 12; i++) {
                mill.op(block, i % 5 == 0 ? 18 : 2, (i + block) % 10, i % 10, (i * 3) % 10);
            }
            mill.branch(block, block, (block * 7 + 3) % 10, (block + 1) % 10);
        }
        return mill;
    }

    private static void useAll(ValueMill mill) {
        for (int stage = 0; stage <= 3; stage++) {
            mill.op(0, 0, 0, 0, 0);
            mill.jump(9, stage);
            mill.ret(8, stage);
            mill.branch(8, 1, stage, 9);
            mill.memory(stage, 5);
            mill.block();
            mill.run(stage, 2 + stage, 100);
            mill.order(1);
            mill.nearest(1);
            mill.frontier(1, 2);
            mill.live(1, 2);
            mill.phi(1, 2);
            mill.depth(1);
            mill.value();
            mill.entered();
            mill.word(1);
            mill.calls();
            mill.call(1, 1);
        }
    }

    private void count(Object start) throws IllegalAccessException {
        meet(start);
        while (!open.isEmpty()) {
            Object next = open.pop();
            if (next.getClass().isArray()) {
                elements += Array.getLength(next);
                continue;
            }
            for (Field field : next.getClass().getDeclaredFields()) {
                if (Modifier.isStatic(field.getModifiers())) {
                    continue;
                }
                elements++;
                field.setAccessible(true);
                if (!field.getType().isPrimitive()) {
                    meet(field.get(next));
                }
            }
        }
    }

    private void meet(Object object) {
        if (object != null && seen.add(object)) {
            open.push(object);
        }
    }
}
