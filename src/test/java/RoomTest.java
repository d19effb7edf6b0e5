import java.lang.management.ManagementFactory;
import java.lang.reflect.Array;
import java.lang.reflect.Field;
import java.lang.reflect.Modifier;
import java.util.ArrayDeque;
import java.util.Collections;
import java.util.Deque;
import java.util.IdentityHashMap;
import java.util.Set;

/** What an object holds is made once, and small; its calls make nothing more. */
public final class RoomTest {
    private static final int MOST_OBJECTS = 200;
    private static final int MOST_ELEMENTS = 6000;
    private static final String FULL = "a b c d e f g h;b c d e f g h a;c d e f g h a b;d e f g h a b c;e f g h a b c d;f g h a b c d e;"
        + "g h a b c d e f;h a b c d e f g;h g f e d c b a;g f e d c b a h;f e d c b a h g;e d c b a h g f;d c b a h g f e;c b a h g f e d;";

    private RoomTest() {
    }

    public static void main(String[] args) throws IllegalAccessException {
        holdsLittle();
        callsMakeNothing();
        Check.close();
    }

    private static void holdsLittle() throws IllegalAccessException {
        Set<Object> seen = Collections.newSetFromMap(new IdentityHashMap<>());
        Deque<Object> waiting = new ArrayDeque<>();
        waiting.add(new MovedLines());
        int elements = 0;
        while (!waiting.isEmpty()) {
            Object object = waiting.remove();
            if (seen.add(object)) {
                elements += object.getClass().isArray() ? lookAtArray(object, waiting) : lookAtFields(object, waiting);
            }
        }
        Check.due("objects and arrays: " + seen.size(), seen.size() <= MOST_OBJECTS, true);
        Check.due("fields and elements: " + elements, elements <= MOST_ELEMENTS, true);
    }

    private static int lookAtArray(Object array, Deque<Object> waiting) {
        int length = Array.getLength(array);
        for (int k = 0; k < length && !array.getClass().getComponentType().isPrimitive(); k++) {
            waiting.add(Array.get(array, k));
        }
        return length;
    }

    private static int lookAtFields(Object object, Deque<Object> waiting) throws IllegalAccessException {
        int fields = 0;
        for (Field field : object.getClass().getDeclaredFields()) {
            if (!Modifier.isStatic(field.getModifiers())) {
                fields++;
                field.setAccessible(true);
                if (!field.getType().isPrimitive()) {
                    waiting.add(field.get(object));
                }
            }
        }
        return fields;
    }

    private static long made() {
        return ((com.sun.management.ThreadMXBean) ManagementFactory.getThreadMXBean())
            .getThreadAllocatedBytes(Thread.currentThread().getId());
    }

    private static void callsMakeNothing() {
        long least = Long.MAX_VALUE;
        for (int round = 0; round < 5; round++) {
            MovedLines x = Check.of(FULL, FULL.substring(0, 7) + "i;" + FULL.substring(16 * 13) + FULL.substring(16, 16 * 12));
            long first = made();
            long idle = made() - first;
            long before = made();
            for (int k = 0; k < 18; k++) {
                callAll(x, k);
            }
            least = Math.min(least, made() - before - idle);
        }
        Check.due("bytes made by some 450 calls: " + least, least < 100, true);
    }

    private static int callAll(MovedLines x, int k) {
        int sum = x.now(2) + x.now(6) + x.line(0, k % 10, 1) + x.letter(1, 0, 0, 0) + x.block(0, 0) + x.shared(k % 10, 0)
            + x.stays(k % 10, 7, 1) + x.most() + x.changes() + x.anchors(0) + x.would(k & 1, k % 10, k % 7) + x.fault();
        sum += x.cut(k & 1, 0) + (x.move(0, 0, 2, 3) ? 1 : 0) + x.now(3) + x.undo() + x.undo();
        sum += x.feed(0x61206220, 0x63206420, 0x65206620, 0x67206120, 0x20202020) + x.change(k & 1, k % 9) + x.take() + x.undo();
        sum += x.feed(0x6120623b, 0x63206420, 0x65206620, 0x67206120, 0x20202020) + x.edition(k & 1) + x.put(0, 0);
        return sum;
    }
}
