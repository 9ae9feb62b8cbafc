import java.lang.management.ManagementFactory;
import java.lang.reflect.Array;
import java.lang.reflect.Field;
import java.lang.reflect.Modifier;
import java.util.ArrayDeque;
import java.util.Collections;
import java.util.Deque;
import java.util.IdentityHashMap;
import java.util.Set;

/** All calls of a run live in one room: an object is small, and its calls make nothing more. */
public final class RoomTest {
    private static final int MOST_OBJECTS = 150;
    private static final int MOST_ELEMENTS = 5000;
    private static final Check check = new Check();
    private static final com.sun.management.ThreadMXBean threads =
        (com.sun.management.ThreadMXBean) ManagementFactory.getThreadMXBean();
    private static int objects;
    private static int elements;

    public static void main(String[] args) throws Exception {
        RootedTrees x = new RootedTrees();
        sizeOf(x);
        check.due(objects + " objects and arrays are too many", objects > MOST_OBJECTS ? 1 : 0, 0);
        check.due(elements + " fields and elements are too many", elements > MOST_ELEMENTS ? 1 : 0, 0);
        int before = objects;
        callAll(x, 7);
        callAll(x, 10);
        sizeOf(x);
        check.due("objects after calls", objects, before);
        made(7);
        made(10);
        check.end("RoomTest");
    }

    /** Measured twice, so that classes which are loaded by the first calls are not counted. */
    private static void made(int nodes) {
        RootedTrees x = new RootedTrees();
        long bytes = -1;
        for (int time = 0; time < 2; time++) {
            long start = threads.getCurrentThreadAllocatedBytes();
            long idle = threads.getCurrentThreadAllocatedBytes() - start;
            start = threads.getCurrentThreadAllocatedBytes();
            callAll(x, nodes);
            bytes = threads.getCurrentThreadAllocatedBytes() - start - idle;
        }
        check.due("bytes made by calls with " + nodes + " nodes", bytes, 0);
        long start = threads.getCurrentThreadAllocatedBytes();
        int[] row = new int[nodes];
        boolean isSeen = threads.getCurrentThreadAllocatedBytes() - start >= 4L * row.length;
        check.due("what is made is seen", isSeen ? 1 : 0, 1);
    }

    /** A full graph, each call of the face on it, refused ones too. */
    private static long callAll(RootedTrees x, int nodes) {
        long sum = x.clear();
        for (int i = 0; i <= nodes && i < 11; i++) {
            if (i < nodes || nodes == 10) {
                sum += x.node();
            }
        }
        for (int i = 0; i < 31; i++) {
            sum += x.arc(i % nodes, (i % nodes + 1 + i / nodes) % nodes, i * 7 % 5);
        }
        sum += x.change(3, 9) + x.change(3, -1) + x.drop(4) + x.drop(4);
        sum += x.parts() + x.least() + x.leastSet() + x.ties() + x.next() + x.swap(0) + x.swap(1) + x.swap(2);
        sum += x.judge(x.leastSet()) + x.judge(-1) + x.judge(0) + x.judge(1 << 29);
        for (int i = -1; i <= nodes; i++) {
            sum += x.height(0, i) + x.bounded(i) + x.boundedSet(i) + x.rooted(i) + x.rootedArc(i, 1);
            sum += x.unreached(i) + x.joined(1 << Math.max(i, 0) | 1) + x.joinedSet(3 << Math.max(i, 0));
        }
        return sum;
    }

    private static void sizeOf(Object whole) throws IllegalAccessException {
        objects = 0;
        elements = 0;
        Set<Object> seen = Collections.newSetFromMap(new IdentityHashMap<>());
        Deque<Object> waiting = new ArrayDeque<>();
        waiting.add(whole);
        while (!waiting.isEmpty()) {
            Object one = waiting.remove();
            if (seen.add(one)) {
                objects++;
                elements += one.getClass().isArray() ? addParts(one, waiting) : addFields(one, waiting);
            }
        }
    }

    private static int addParts(Object row, Deque<Object> waiting) {
        int length = Array.getLength(row);
        if (!row.getClass().getComponentType().isPrimitive()) {
            for (int i = 0; i < length; i++) {
                waiting.add(Array.get(row, i));
            }
        }
        return length;
    }

    private static int addFields(Object one, Deque<Object> waiting) throws IllegalAccessException {
        int count = 0;
        for (Field field : one.getClass().getDeclaredFields()) {
            if (!Modifier.isStatic(field.getModifiers())) {
                count++;
                field.setAccessible(true);
                if (!field.getType().isPrimitive()) {
                    waiting.add(field.get(one));
                }
            }
        }
        return count;
    }
}
