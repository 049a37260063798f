import java.lang.management.ManagementFactory;
import java.lang.reflect.Array;
import java.lang.reflect.Field;
import java.lang.reflect.Modifier;
import java.util.ArrayDeque;
import java.util.Collections;
import java.util.Deque;
import java.util.IdentityHashMap;
import java.util.Set;

/** All calls of a run live in one room: calls make no objects, and one object stays small. */
public final class RoomTest {
    private static final int WARM = 300;

    public static void main(String[] args) throws IllegalAccessException {
        size(new WeatherWages());
        callsMakeNothing();
        wildCalls();
        Due.end();
    }

    private static void size(WeatherWages x) throws IllegalAccessException {
        Set<Object> seen = Collections.newSetFromMap(new IdentityHashMap<>());
        Deque<Object> open = new ArrayDeque<>();
        open.add(x);
        seen.add(x);
        int cells = 0;
        while (!open.isEmpty()) {
            Object one = open.remove();
            if (one.getClass().isArray()) {
                cells += Array.getLength(one);
                continue;
            }
            for (Field field : one.getClass().getDeclaredFields()) {
                if (Modifier.isStatic(field.getModifiers())) {
                    continue;
                }
                cells++;
                field.setAccessible(true);
                Object held = field.getType().isPrimitive() ? null : field.get(one);
                if (held != null && seen.add(held)) {
                    open.add(held);
                }
            }
        }
        Due.holds("one object is " + seen.size() + " objects", seen.size() <= 100);
        Due.holds("one object is " + cells + " cells", cells <= 7000);
    }

    private static long made() {
        com.sun.management.ThreadMXBean bean = (com.sun.management.ThreadMXBean) ManagementFactory.getThreadMXBean();
        return bean.getThreadAllocatedBytes(Thread.currentThread().getId());
    }

    private static void callsMakeNothing() {
        WeatherWages x = new WeatherWages();
        for (int n = 0; n < WARM; n++) {
            everyCall(x, n % 5, n % 3);
        }
        made();
        long before = made();
        for (int n = 0; n < 1000; n++) {
            everyCall(x, n % 5, n % 3);
        }
        long bytes = made() - before;
        Due.holds("60,000 calls made " + bytes + " bytes", bytes < 20000);
    }

    /** "kind a;man m crop 1;purse m a 9;book 3;" with blanks. */
    private static void everyCall(WeatherWages x, int a, int b) {
        x.feed(0x6b696e64, 0x20613b20, 0x6d616e20, 0x6d206372, 0x6f702031);
        x.feed(0x3b707572, 0x7365206d, 0x20612039, 0x3b626f6f, 0x6b20333b);
        x.end(40);
        x.mill();
        acts(x, a, b);
        x.best(a, b);
        x.leaks(a);
        x.good(a, b);
        x.needs(a, b);
        x.pool(a, b);
        x.joint(a, b);
        x.rest();
        x.will(a, b);
        x.thrive(a, b);
        x.saves(a, b, 9);
        x.richest();
        x.gulf();
        x.most(a);
        x.gain(b);
        x.lies(a);
        x.least(a, b, true);
        x.more(a, b, false);
        x.untell(a);
        x.later(b);
        x.orders(a);
        x.sure(a, b);
        x.ask(a, b);
        x.about(a);
    }

    private static void acts(WeatherWages x, int a, int b) {
        x.fault(a);
        x.man(a, b);
        x.purse(a, b);
        x.over(a, b);
        x.pay(a, b);
        x.all(b, a);
        x.left(a);
        x.spend(a, b, 1);
        x.give(a, b, 0, 1);
        x.change(a, b, a);
        x.image(b);
        x.week();
        x.undo();
        x.redo();
        x.back(b);
    }

    /** Nothing is thrown, whatever the arguments, in whatever state. */
    private static void wildCalls() {
        int[] wild = {Integer.MIN_VALUE, -1000000, -1, 0, 1, 2, 3, 5, 8, 99, 1600, 1 << 30, Integer.MAX_VALUE};
        WeatherWages x = new WeatherWages();
        int calls = 0;
        for (int a : wild) {
            for (int b : wild) {
                x.feed(a, b, a, b, a);
                x.end(b);
                if (calls % 7 == 0) {
                    x.mill();
                }
                everyCall(x, a, b);
                for (int c : wild) {
                    x.spend(a, b, c);
                    x.give(a, b, c, a);
                    x.change(a, b, c);
                    x.saves(a, b, c);
                    x.least(a, b, c > 0);
                }
                calls++;
            }
        }
        Due.is("wild calls", calls, wild.length * wild.length);
    }
}
