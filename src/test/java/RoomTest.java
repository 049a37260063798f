import java.lang.management.ManagementFactory;
import java.lang.reflect.Array;
import java.lang.reflect.Field;
import java.lang.reflect.Modifier;
import java.util.ArrayDeque;
import java.util.ArrayList;
import java.util.Arrays;
import java.util.Collections;
import java.util.Deque;
import java.util.IdentityHashMap;
import java.util.List;
import java.util.Objects;
import java.util.Set;

/** All calls of a run live in one room, nothing is thrown, and two runs answer the same. */
public final class RoomTest {
    private static final int CALLS = 512;
    /** 600,000 objects of 16 bytes, 7.3 million fields and elements of 8. */
    private static final long ROOM = 600_000L * 16 + 7_300_000L * 8;
    private static final int[] WILD = {Integer.MIN_VALUE, -1000000, -1, 0, 1, 2, 3, 5, 8, 99, 1600, 1 << 30,
        Integer.MAX_VALUE};
    /** As much as can be told. */
    private static final String FULL = full();

    public static void main(String[] args) throws IllegalAccessException {
        size(new WeatherWages());
        runsFit();
        wildCalls();
        sameAnswers();
        Due.end();
    }

    private static String full() {
        StringBuilder text = new StringBuilder("kind a;kind b;kind c;hours 8;draw 7;"
            + "book 1;book 2;book 3;book 4;book 5;rate a 1 for b 2;rate b 1 for a 3;rate b 1 for c 4;rate c 5 for a 5;");
        for (int man = 0; man < 5; man++) {
            char name = "mnopq".charAt(man);
            text.append("man " + name + " crop 9 loose;hedge " + name + " 2;");
            for (int kind = 0; kind < 3; kind++) {
                text.append("purse " + name + " " + "abc".charAt(kind) + " 60;pay " + name + " " + "abc".charAt(kind) + " 9;");
            }
        }
        return text + "grow first * 2 - second + third % (plot + 2)" + Texts.times(22, "+first") + " - 9;";
    }

    private static void size(WeatherWages x) throws IllegalAccessException {
        Set<Object> seen = Collections.newSetFromMap(new IdentityHashMap<>());
        Deque<Object> open = new ArrayDeque<>();
        open.add(x);
        seen.add(x);
        int cells = 0;
        while (!open.isEmpty()) {
            Object one = open.remove();
            List<Object> held = heldBy(one);
            cells += cellsOf(one);
            for (Object part : held) {
                if (seen.add(part)) {
                    open.add(part);
                }
            }
        }
        Due.holds("a new object is " + seen.size() + " objects", seen.size() <= 6000);
        Due.holds("a new object is " + cells + " fields and elements", cells <= 73000);
    }

    private static List<Field> fieldsOf(Object one) {
        List<Field> fields = new ArrayList<>();
        for (Class<?> type = one.getClass(); type != null && type.getClassLoader() != null; type = type.getSuperclass()) {
            for (Field field : type.getDeclaredFields()) {
                if (!Modifier.isStatic(field.getModifiers())) {
                    fields.add(field);
                }
            }
        }
        return fields;
    }

    /** Of what the library makes: the characters of a text, the elements of a list. */
    private static int cellsOf(Object one) {
        if (one.getClass().isArray()) {
            return Array.getLength(one);
        }
        if (one instanceof CharSequence) {
            return ((CharSequence) one).length();
        }
        return one instanceof List ? ((List<?>) one).size() : fieldsOf(one).size();
    }

    private static List<Object> heldBy(Object one) throws IllegalAccessException {
        List<Object> held = new ArrayList<>();
        if (one instanceof Object[]) {
            held.addAll(Arrays.asList((Object[]) one));
        } else if (one instanceof List) {
            held.addAll((List<?>) one);
        }
        for (Field field : fieldsOf(one)) {
            if (!field.getType().isPrimitive()) {
                field.setAccessible(true);
                held.add(field.get(one));
            }
        }
        held.removeIf(Objects::isNull);
        return held;
    }

    private static long made() {
        com.sun.management.ThreadMXBean bean = (com.sun.management.ThreadMXBean) ManagementFactory.getThreadMXBean();
        return bean.getThreadAllocatedBytes(Thread.currentThread().getId());
    }

    /** A call of each method again and again, on one object after another. */
    private static void runsFit() {
        long most = 0;
        for (int n = 0; n < 20; n++) {
            made();
            long before = made();
            WeatherWages x = new WeatherWages();
            Mills.tell(x, FULL);
            for (int calls = 100; calls < CALLS - 50; calls += 50) {
                everyCall(x, n % 5, n % 3);
            }
            most = Math.max(most, made() - before);
        }
        Due.holds("one of each call again and again made " + most + " bytes", most <= ROOM);
    }

    private static void everyCall(WeatherWages x, int a, int b) {
        x.feed(0x6b696e64, 0x20613b20, 0x6d616e20, 0x6d206372, 0x6f702031);
        x.end(40);
        if (a % 4 == 1) {
            x.mill();
        }
        acts(x, a, b);
        x.best(a, b);
        x.leaks(a);
        x.good(a, b);
        x.needs(a, b);
        x.pool(a, b);
        x.joint(a, b);
        x.rest();
        x.will(a, b);
        x.thrive(a, b);
        x.saves(a, b, 9);
        x.richest();
        x.gulf();
        x.most(a);
        x.gain(b);
        x.lies(a);
        x.least(a, b, true);
        x.more(a, b, false);
        x.untell(a);
        x.later(b);
        x.orders(a);
        x.sure(a, b);
        x.ask(a, b);
        x.about(a);
    }

    private static void acts(WeatherWages x, int a, int b) {
        x.fault(a);
        x.man(a, b);
        x.purse(a, b);
        x.over(a, b);
        x.pay(a, b);
        x.all(b, a);
        x.left(a);
        x.spend(a, b, 1);
        x.give(a, b, 0, 1);
        x.change(a, b, a);
        x.image(b);
        x.week();
        x.undo();
        x.redo();
        x.back(b);
    }

    /** Nothing is thrown, whatever the arguments, whether a mill is told or not. */
    private static void wildCalls() {
        int calls = 0;
        for (int a : WILD) {
            for (int b : WILD) {
                WeatherWages x = new WeatherWages();
                everyCall(x, a, b);
                Mills.tell(x, FULL);
                everyCall(x, a, b);
                x.feed(a, b, a, b, a);
                x.end(b);
                for (int c : WILD) {
                    x.spend(a, b, c);
                    x.give(a, b, c, a);
                    x.change(a, b, c);
                    x.saves(a, b, c);
                    x.least(a, b, c > 0);
                }
                everyCall(x, b, a);
                x.mill();
                everyCall(x, a, b);
                calls++;
            }
        }
        Due.is("wild calls", calls, WILD.length * WILD.length);
    }

    /** The dearest call each time, and what it answers, twice. */
    private static void sameAnswers() {
        for (int man = 0; man < 5; man++) {
            WeatherWages x = Mills.of(FULL);
            WeatherWages y = Mills.of(FULL);
            for (int n = 0; n < 20; n++) {
                Due.is("thrive", x.thrive(man, 12), y.thrive(man, 12));
                Due.is("pool", x.pool(man, (man + 1) % 5), y.pool(man, (man + 1) % 5));
                Due.is("rest", x.rest(), y.rest());
                Due.is("good", x.good(man, 0), y.good(man, 0));
                Due.is("week", x.week(), y.week());
                Due.is("state", x.man(man, 0), y.man(man, 0));
            }
        }
    }
}
