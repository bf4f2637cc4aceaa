import com.sun.management.ThreadMXBean;
import java.lang.management.ManagementFactory;
import java.lang.reflect.Array;
import java.lang.reflect.Field;
import java.lang.reflect.Modifier;
import java.util.ArrayDeque;
import java.util.Collections;
import java.util.Deque;
import java.util.IdentityHashMap;
import java.util.Set;

/**
 * The room of LANGUAGE.md: an object with all that hangs on it is a small part of it, and the calls
 * make nothing more, the dearest ones neither.
 */
public final class RoomTest {
    private static final int MOST_OBJECTS = 600000;
    private static final int MOST_ELEMENTS = 7300000;

    private RoomTest() {
    }

    public static void main(String[] args) throws IllegalAccessException {
        roomOfAnObject();
        callsMakeNothing("one market", false);
        callsMakeNothing("a market after another", true);
        Check.finish();
    }

    /** Counts objects and arrays, their fields and elements, from an object on. */
    private static void roomOfAnObject() throws IllegalAccessException {
        Set<Object> seen = Collections.newSetFromMap(new IdentityHashMap<>());
        Deque<Object> todo = new ArrayDeque<>();
        todo.add(new UnsoldPrice());
        long elements = 0;
        while (!todo.isEmpty()) {
            Object o = todo.poll();
            if (!seen.add(o)) {
                continue;
            }
            if (o.getClass().isArray()) {
                int length = Array.getLength(o);
                elements += length;
                for (int k = 0; k < length && !o.getClass().getComponentType().isPrimitive(); k++) {
                    addIfThere(todo, Array.get(o, k));
                }
                continue;
            }
            for (Class<?> c = o.getClass(); c != Object.class; c = c.getSuperclass()) {
                for (Field f : c.getDeclaredFields()) {
                    if (Modifier.isStatic(f.getModifiers())) {
                        continue;
                    }
                    elements++;
                    f.setAccessible(true);
                    if (!f.getType().isPrimitive()) {
                        addIfThere(todo, f.get(o));
                    }
                }
            }
        }
        System.out.println("an object: " + seen.size() + " objects and arrays, " + elements
                + " fields and elements");
        // A run may make some objects one after another.
        Check.due("objects of ten", 10L * seen.size() < MOST_OBJECTS, true);
        Check.due("elements of ten", 10 * elements < MOST_ELEMENTS, true);
    }

    private static void addIfThere(Deque<Object> todo, Object o) {
        if (o != null) {
            todo.add(o);
        }
    }

    private static void callsMakeNothing(String name, boolean again) {
        ThreadMXBean threads = (ThreadMXBean) ManagementFactory.getThreadMXBean();
        long self = Thread.currentThread().getId();
        // The first round loads what the machine itself needs.
        callAll(again);
        long before = threads.getThreadAllocatedBytes(self);
        int sum = callAll(again);
        long made = threads.getThreadAllocatedBytes(self) - before;
        long one = threads.getThreadAllocatedBytes(self);
        Check.due("some answers", sum != 0, true);
        new UnsoldPrice();
        long room = threads.getThreadAllocatedBytes(self) - one;
        System.out.println(name + ": " + made + " bytes by an object and its calls, " + room + " by an object alone");
        // What the test itself makes is some kilobytes at most.
        Check.due(name + ": the calls make next to nothing", made - room < 20000, true);
    }

    private static int callAll(boolean again) {
        UnsoldPrice x = new UnsoldPrice();
        Check.market(x, "sn3c1r1;sn2c2;sn1;bv9m2w2;bv12m3;bv5w3;lf20");
        Check.rule(x, "y:g>4?p-2;y:!(d=3|u<2)&w>1?[p+c]/2;y:p");
        x.rule(0, 0);
        x.rule(2, 0);
        x.risk(30);
        int sum = 0;
        for (int k = 0; k < 16; k++) {
            if (again) {
                Check.market(x, "sn3c1r1;sn2c2;sn1;bv9m2w2;bv12m3;bv5w3;lf20");
                x.rule(0, 0);
            }
            sum += x.days(2) + x.rest(k) + x.best(0, 2, 1) + x.odds(8, 9) + x.fits(k);
            sum += x.fool(0, 30, 1) + x.up(30, 9) + x.when(30, 0) + x.stranger(9, 9, 2);
            sum += x.see(1, 9) + x.other(1, 30, 0) + x.ask(0, 1, 9) + x.month(30, 0);
            sum += x.inTurn(30, 1) + x.bribe(30, 1) + x.spread(30, 1) + x.served(0, 30, 0);
            sum += x.lone(0, 1) + x.glut(30, 0) + x.image() + x.back() + x.ring(0) + x.fault(0);
            sum += x.fault(1) + x.ahead(30) + x.falls(30, 1) + x.count(5) + x.buyers(0, 3);
        }
        return sum;
    }
}
