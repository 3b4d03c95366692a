import java.lang.management.ManagementFactory;
import java.lang.reflect.Array;
import java.lang.reflect.Field;
import java.lang.reflect.Modifier;
import java.util.ArrayDeque;
import java.util.Collections;
import java.util.Deque;
import java.util.IdentityHashMap;
import java.util.Set;

/** LANGUAGE.md, rule 12: an object takes little room, and behind its constructor no call takes any. */
public final class RoomTests {
    private static final int CALLS = 512;
    private static final int MOST_OBJECTS = 200;
    private static final int MOST_ELEMENTS = 12000;
    // What measuring takes by itself, and far less than a row of a byte made by each call.
    private static final long SLACK = 2048;

    public static void main(String[] args) throws IllegalAccessException {
        for (int places = 4; places <= 12; places += 8) {
            ShipUnstopped ship = new ShipUnstopped(places);
            sizeOf(ship);
            Due.rule(ship, "speed sail+last*wind-place/2-lane;draught fast+weight/20-hour/3;tide place*hour<25 or weight=0 and not hour=3;");
            // so that back() leaves THE TEXT
            ship.image();
            nothingIsMade(ship);
            sizeOf(ship);
        }
        Due.close("RoomTests");
    }

    private static void sizeOf(ShipUnstopped ship) throws IllegalAccessException {
        Set<Object> seen = Collections.newSetFromMap(new IdentityHashMap<>());
        Deque<Object> rest = new ArrayDeque<>();
        rest.add(ship);
        seen.add(ship);
        int elements = 0;
        while (!rest.isEmpty()) {
            Object one = rest.remove();
            if (one.getClass().isArray()) {
                elements += Array.getLength(one);
                for (int i = 0; i < Array.getLength(one); i++) {
                    note(Array.get(one, i), one.getClass().getComponentType(), seen, rest);
                }
                continue;
            }
            for (Field field : one.getClass().getDeclaredFields()) {
                if (!Modifier.isStatic(field.getModifiers())) {
                    elements++;
                    field.setAccessible(true);
                    note(field.get(one), field.getType(), seen, rest);
                }
            }
        }
        Due.yes("objects and arrays: " + seen.size(), seen.size() <= MOST_OBJECTS);
        Due.yes("fields and elements: " + elements, elements <= MOST_ELEMENTS);
    }

    private static void note(Object value, Class<?> type, Set<Object> seen, Deque<Object> rest) {
        if (value != null && !type.isPrimitive() && seen.add(value)) {
            rest.add(value);
        }
    }

    private static void nothingIsMade(ShipUnstopped ship) {
        com.sun.management.ThreadMXBean thread = (com.sun.management.ThreadMXBean) ManagementFactory.getThreadMXBean();
        if (!thread.isThreadAllocatedMemorySupported()) {
            return;
        }
        long id = Thread.currentThread().getId();
        for (int kind = 0; kind < 28; kind++) {
            thread.getThreadAllocatedBytes(id);
            long before = thread.getThreadAllocatedBytes(id);
            for (int i = 0; i < CALLS; i++) {
                call(ship, kind, i);
            }
            long made = thread.getThreadAllocatedBytes(id) - before;
            Due.yes("bytes made by the calls of kind " + kind + ": " + made, made <= SLACK);
        }
    }

    /** Each call of the face, in its order, by arguments that go on with i. */
    private static int call(ShipUnstopped x, int kind, int i) {
        int state = ((12 * (i % 3) + i % 4) * 8 + i % 8) * 5 + 1 + i % 4;
        switch (kind) {
            case 0: return x.depth(i % 3, i % 4, 5 + i % 5) ? 1 : 0;
            case 1: return x.rocks(i % 16) ? 1 : 0;
            case 2: return x.winds(i % 8, 1 + i % 15) ? 1 : 0;
            case 3: return x.weigh(i % 100) ? 1 : 0;
            case 4: return x.feed(0x73706565, 0x64207361, 0x696C2B31, 0x3B0A0A0A, 0x20202020);
            case 5: return x.end(20);
            case 6: return x.text() + x.feed(0x74696465, 0x20686F75, 0x723C7765, 0x69676874, 0x3B202020) + x.back();
            case 7: return x.fault(i % 3);
            case 8: return x.by(i % 4) ? 1 : 0;
            case 9: return x.becomes(state, i % 12, i % 4);
            case 10: return x.go(i % 12, i % 4);
            case 11: return x.course(i % 12 - 1);
            case 12: return x.sail(i);
            case 13: return x.undo();
            case 14: return x.ship(i % 4);
            case 15: return x.reach(state, i % 25, i % 3);
            case 16: return x.kept(state, i % 100 - 1) ? 1 : 0;
            case 17: return x.think();
            case 18: return x.best(state);
            case 19: return x.between(state, i % 4, 1 + i % 5, i % 2 == 0);
            case 20: return x.meet(state, i % 4, i % 49, 1 + i % 4);
            case 21: return x.goods(1 + i % 99);
            case 22: return x.level(i % 2);
            case 23: return x.leap(i % 10, i % 2 == 0);
            case 24: return x.aboard(i % 3 - 1, i % 2 == 0);
            case 25: return x.image();
            case 26: return x.back();
            default: return x.about(i % 60 - 1);
        }
    }
}
