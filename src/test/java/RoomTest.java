import java.lang.reflect.Array;
import java.lang.reflect.Field;
import java.lang.reflect.Modifier;
import java.util.ArrayDeque;
import java.util.Collections;
import java.util.Deque;
import java.util.IdentityHashMap;
import java.util.Set;

/**
 * How much room an object takes: so little that a run of nothing but constructors has room, and no
 * more after its calls than before.
 */
public final class RoomTest {
    private static final int MOST_CALLS = 512;
    private static final long MOST_OBJECTS = 600_000;
    private static final long MOST_ELEMENTS = 7_300_000;

    private final Set<Object> objects = Collections.newSetFromMap(new IdentityHashMap<>());
    private final Deque<Object> open = new ArrayDeque<>();
    private long elements = 0;

    private RoomTest(Object root) throws IllegalAccessException {
        find(root);
        while (!open.isEmpty()) {
            count(open.pop());
        }
    }

    public static void main(String[] args) throws IllegalAccessException {
        LegalRows x = new LegalRows(16, 1000);
        RoomTest before = new RoomTest(x);
        long objects = before.objects.size();
        Checks.due(objects + " objects for each call", true,
                () -> (MOST_CALLS + 1) * objects <= MOST_OBJECTS);
        Checks.due(before.elements + " fields and elements for each call", true,
                () -> (MOST_CALLS + 1) * before.elements <= MOST_ELEMENTS);
        use(x);
        RoomTest after = new RoomTest(x);
        Checks.due("fields and elements after all calls", before.elements, () -> after.elements);
        Checks.due("the same objects after all calls", true,
                () -> before.objects.equals(after.objects));
        Checks.end("RoomTest");
    }

    /** Some 512 calls, of each kind some. */
    private static void use(LegalRows x) {
        for (int i = 0; i < 60; i++) {
            x.cell(1 + i % 3, 1);
            x.want(i, 7 * i, i % 16);
            x.kind(i, i % 4, i % 3);
        }
        for (int i = 0; i < 60; i++) {
            x.net(i, 59 - i);
        }
        x.space(1, 2, 3);
        for (int i = 0; i < 240; i++) {
            x.bar(i % 16, 4 * i, 4 * i + 1);
        }
        Checks.due("run()", 0, () -> x.run());
        Checks.due("improve()", true, () -> x.improve(Integer.MAX_VALUE) > 0);
        Checks.due("overlap()", false, () -> x.overlap());
        Checks.due("moved() and wire()", true, () -> x.moved() > 0 && x.wire() > 0);
    }

    private void find(Object found) {
        if (found != null && objects.add(found)) {
            open.push(found);
        }
    }

    private void count(Object object) throws IllegalAccessException {
        if (object.getClass().isArray()) {
            elements += Array.getLength(object);
            if (object instanceof Object[]) {
                for (Object inside : (Object[]) object) {
                    find(inside);
                }
            }
            return;
        }
        for (Field field : object.getClass().getDeclaredFields()) {
            if (!Modifier.isStatic(field.getModifiers())) {
                elements++;
                field.setAccessible(true);
                if (!field.getType().isPrimitive()) {
                    find(field.get(object));
                }
            }
        }
    }
}
