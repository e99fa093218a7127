import java.lang.reflect.Array;
import java.lang.reflect.Field;
import java.lang.reflect.Modifier;
import java.util.ArrayDeque;
import java.util.Collections;
import java.util.Deque;
import java.util.IdentityHashMap;
import java.util.Set;

/** What one object takes of the room that all calls of a run live in, before and behind its dearest calls. */
public final class RoomTest {
    private static final int MOST_OBJECTS = 600_000;
    private static final int MOST_ELEMENTS = 7_300_000;

    private final Set<Object> seen = Collections.newSetFromMap(new IdentityHashMap<>());
    private final Deque<Object> open = new ArrayDeque<>();
    private int elements;

    private RoomTest(Object first) throws IllegalAccessException {
        find(first);
        while (!open.isEmpty()) {
            Object o = open.pop();
            if (o.getClass().isArray()) {
                countArray(o);
            } else {
                countFields(o);
            }
        }
    }

    public static void main(String[] args) throws IllegalAccessException {
        Due due = new Due("RoomTest");
        FilterProof x = new FilterProof(14);
        RoomTest before = new RoomTest(x);
        // two hundred objects of this size would still find their place
        due.is("objects, " + before.seen.size(), before.seen.size() * 200 < MOST_OBJECTS, true);
        due.is("fields and elements, " + before.elements, before.elements * 200 < MOST_ELEMENTS, true);
        for (int i = 0; i < 47; i++) {
            x.instruction(i % 2 == 0 ? 15 : 8, 2 + i / 2 % 6, 0, 10, i + 1);
        }
        x.instruction(0, 2, 0, 0, 0);
        due.is("receive()", x.receive(1, 8), 8);
        due.is("receive()", x.receive(1, 8), 16);
        for (int i = 0; i < 150; i++) {
            due.is("prove()", x.prove() > 0, true);
            due.is("check()", x.check(), 0);
            due.is("run()", x.run(), 0);
        }
        RoomTest behind = new RoomTest(x);
        due.is("objects behind all calls", behind.seen.size(), before.seen.size());
        due.is("elements behind all calls", behind.elements, before.elements);
        due.end();
    }

    private void find(Object o) {
        if (o != null && seen.add(o)) {
            open.push(o);
        }
    }

    private void countArray(Object row) {
        int length = Array.getLength(row);
        elements += length;
        for (int i = 0; !row.getClass().getComponentType().isPrimitive() && i < length; i++) {
            find(Array.get(row, i));
        }
    }

    private void countFields(Object o) throws IllegalAccessException {
        for (Field f : o.getClass().getDeclaredFields()) {
            if (Modifier.isStatic(f.getModifiers())) {
                continue;
            }
            elements++;
            if (!f.getType().isPrimitive()) {
                f.setAccessible(true);
                find(f.get(o));
            }
        }
    }
}
