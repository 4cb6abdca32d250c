import java.lang.management.ManagementFactory;
import java.lang.reflect.Array;
import java.lang.reflect.Field;
import java.lang.reflect.Modifier;
import java.util.ArrayDeque;
import java.util.Collections;
import java.util.Deque;
import java.util.IdentityHashMap;
import java.util.Set;

/**
 * All calls of a run live in one room of 600,000 objects and 7.3 million fields and elements: an object takes a small
 * part of it, and its calls take nothing.
 */
public final class RoomTest {
    private static final int MOST_OBJECTS = 1000;
    private static final int MOST_ELEMENTS = 13000;

    public static void main(String[] args) throws IllegalAccessException {
        boolean small = newObjectIsSmall();
        boolean nothing = callsMakeNothing();
        if (!small || !nothing) {
            System.exit(1);
        }
    }

    private static boolean newObjectIsSmall() throws IllegalAccessException {
        Set<Object> seen = Collections.newSetFromMap(new IdentityHashMap<>());
        Deque<Object> open = new ArrayDeque<>();
        open.add(new CoflowSimulator());
        long elements = 0;
        while (!open.isEmpty()) {
            Object next = open.pop();
            if (!seen.add(next)) {
                continue;
            }
            if (next.getClass().isArray()) {
                elements += Array.getLength(next);
                if (next instanceof Object[] parts) {
                    Collections.addAll(open, parts);
                }
                continue;
            }
            for (Field field : next.getClass().getDeclaredFields()) {
                if (Modifier.isStatic(field.getModifiers())) {
                    continue;
                }
                elements++;
                field.setAccessible(true);
                if (!field.getType().isPrimitive()) {
                    open.add(field.get(next));
                }
            }
        }
        System.out.println("a new object: " + seen.size() + " objects, " + elements + " fields and elements");
        return seen.size() <= MOST_OBJECTS && elements <= MOST_ELEMENTS;
    }

    private static boolean callsMakeNothing() {
        com.sun.management.ThreadMXBean bean = (com.sun.management.ThreadMXBean) ManagementFactory.getThreadMXBean();
        long id = Thread.currentThread().getId();
        long least = Long.MAX_VALUE;
        for (int round = 0; round < 5; round++) {
            CoflowSimulator x = new CoflowSimulator();
            long before = bean.getThreadAllocatedBytes(id);
            long between = bean.getThreadAllocatedBytes(id);
            useAll(x);
            long made = bean.getThreadAllocatedBytes(id) - between - (between - before);
            least = Math.min(least, made);
        }
        System.out.println("bytes that the calls made: " + least);
        return least <= 0;
    }

    private static void useAll(CoflowSimulator x) {
        x.setRules(true, true);
        for (int group = 0; group < 4; group++) {
            x.flow(group, 1, 300 + group);
            x.type('0');
            x.type('>');
            x.type('1');
            x.type(':');
            x.type('7');
            x.textFault();
            x.read();
            x.clearText();
            x.addGroup(group, 1 + group, 20 * group);
        }
        x.flow(1, 1, 1);
        x.dropDraft();
        for (int policy = 0; policy < 6; policy++) {
            x.setPolicy(policy);
            x.setCapacity(policy, 80);
            x.pass(1);
            x.total(policy);
            x.bestPolicy();
            x.bestOrder();
            x.bestOrderAt(0);
            x.bound();
            askGroups(x);
            x.undo();
        }
        x.pass(500);
        x.digest();
    }

    private static void askGroups(CoflowSimulator x) {
        for (int group = -1; group < 5; group++) {
            x.state(group);
            x.arrival(group);
            x.end(group);
            x.flowCount(group);
            x.flowPart(group, 0, 3);
            x.rest(group);
            x.level(group);
            x.loneSpan(group);
            x.place(group);
            x.nextSpan(group);
            x.nextRate(group, 0);
            x.spare(group);
            x.outlook(group);
            x.moved(group);
            x.event(group, 1);
        }
        x.time();
        x.groupCount();
        x.preemptions();
        x.eventCount();
    }
}
