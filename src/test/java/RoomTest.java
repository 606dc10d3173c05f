import java.lang.management.ManagementFactory;
import java.lang.reflect.Array;
import java.lang.reflect.Field;
import java.lang.reflect.Modifier;
import java.util.ArrayDeque;
import java.util.Collections;
import java.util.Deque;
import java.util.IdentityHashMap;
import java.util.Set;

/** All that an object ever makes is made with it: a small object, and no call that makes another one. */
public final class RoomTest {
    private static final long MOST_OBJECTS = 100;
    private static final long MOST_ELEMENTS = 20_000;
    private static final long MOST_BYTES = 4_096;

    public static void main(String[] args) throws IllegalAccessException {
        countObjects();
        int answers = countBytes(new TournamentDesk());
        Check.holds("calls were made", answers != 0);
        Check.end();
    }

    private static void countObjects() throws IllegalAccessException {
        Set<Object> seen = Collections.newSetFromMap(new IdentityHashMap<>());
        Deque<Object> open = new ArrayDeque<>();
        open.add(new TournamentDesk());
        long elements = 0;
        while (!open.isEmpty()) {
            Object object = open.remove();
            if (seen.add(object)) {
                elements += object.getClass().isArray() ? ofArray(object, open) : ofObject(object, open);
            }
        }
        System.out.println(seen.size() + " objects with " + elements + " fields and elements");
        Check.holds("objects", seen.size() <= MOST_OBJECTS);
        Check.holds("fields and elements", elements <= MOST_ELEMENTS);
    }

    private static long ofArray(Object array, Deque<Object> open) {
        if (!array.getClass().getComponentType().isPrimitive()) {
            for (Object element : (Object[]) array) {
                open.add(element);
            }
        }
        return Array.getLength(array);
    }

    private static long ofObject(Object object, Deque<Object> open) throws IllegalAccessException {
        long fields = 0;
        for (Field field : object.getClass().getDeclaredFields()) {
            if (!Modifier.isStatic(field.getModifiers())) {
                fields++;
                field.setAccessible(true);
                if (!field.getType().isPrimitive()) {
                    open.add(field.get(object));
                }
            }
        }
        return fields;
    }

    private static int countBytes(TournamentDesk x) {
        var threads = (com.sun.management.ThreadMXBean) ManagementFactory.getThreadMXBean();
        // The first round loads what the second one is measured with.
        int answers = round(x) + (int) threads.getCurrentThreadAllocatedBytes();
        long before = threads.getCurrentThreadAllocatedBytes();
        answers += round(x) + round(x) + round(x);
        long made = threads.getCurrentThreadAllocatedBytes() - before;
        System.out.println(made + " bytes made by calls");
        Check.holds("bytes made by calls: " + made, made <= MOST_BYTES);
        return answers;
    }

    private static int round(TournamentDesk x) {
        int sum = x.reset(10) + x.setResult(9, 0) + x.setWeight(3, 7, 5) + x.reverseTriangle(0, 4, 9);
        sum += x.reversePath(3, 0) + x.reversePlayer(5) + x.exchange(2, 8) + x.clearSequence() + x.clearText();
        for (int i = 0; i < 10; i++) {
            sum += x.append(4 + i % 2) + x.type("1>0;2<9;7>5".charAt(i));
        }
        sum += x.checkSequence() + x.construct() + x.fault() + x.enter() + x.spanningPaths() + x.undisputed();
        for (int p = 0; p < 10; p++) {
            sum += x.pathAt(p) + x.orderAt(p) + x.cycleAt(p, 10, p) + x.cycleLengths(p) + x.componentOf(p);
            sum += x.distance(p, 0) + x.scoreAt(p) + x.score(p) + x.beats(p, 1) + x.weight(p, 1);
        }
        sum += x.triangles() + x.components() + x.leastCost() + x.store() + x.difference() + x.isLikeStored();
        return sum + x.towardsStored() + x.recall() + x.undo() + x.players();
    }
}
