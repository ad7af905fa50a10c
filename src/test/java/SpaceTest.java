import com.sun.management.ThreadMXBean;
import java.lang.management.ManagementFactory;
import java.lang.reflect.Array;
import java.lang.reflect.Field;
import java.lang.reflect.Modifier;
import java.util.IdentityHashMap;
import java.util.Map;
import java.util.function.IntConsumer;

/**
 * The room that an object takes: "An object is used for at most 512 calls", and all calls of one run live in a room of
 * some 600,000 objects and arrays, 7.3 million fields and elements.
 */
public final class SpaceTest {
    private static final String FULL = fullSpring();
    private static int checksum = 0;
    private static long objects;
    private static long elements;

    private SpaceTest() {
    }

    public static void main(String[] args) throws IllegalAccessException {
        SpoutSpring x = new SpoutSpring();
        count(x);
        Due.yes("an object's objects: " + objects, objects < 1000);
        Due.yes("an object's elements: " + elements, elements < 120000);
        for (int i = 0; i < 4; i++) {
            Due.same("a spring of eight rooms", Due.spring(x, i, FULL), 8);
        }
        lastOf512();
        callsMakeNothing(x);
        long before = elements;
        count(x);
        Due.yes("no more elements behind all calls: " + elements + ", ahead " + before, elements <= before);
        Due.finish("SpaceTest");
    }

    private static String fullSpring() {
        StringBuilder text = new StringBuilder(Springs.line("neck a", "air", 0, 99, 30, 9, 30));
        for (char name = 'b'; name <= 'h'; name++) {
            text.append(Springs.line("pool " + name, "" + (char) (name - 1), name - 'a', 60, 20, 700, 9));
        }
        for (int i = 0; i < 4; i++) {
            text.append("join ").append((char) ('a' + i)).append(" h wide 9;");
        }
        return text.toString();
    }

    /** Counts what an object has, once each. */
    private static void count(Object root) throws IllegalAccessException {
        objects = 0;
        elements = 0;
        visit(root, new IdentityHashMap<>());
    }

    private static void visit(Object one, Map<Object, Object> seen) throws IllegalAccessException {
        if (one == null || one instanceof String || seen.put(one, one) != null) {
            return;
        }
        objects++;
        Class<?> type = one.getClass();
        if (type.isArray()) {
            elements += Array.getLength(one);
            if (!type.getComponentType().isPrimitive()) {
                for (int i = 0; i < Array.getLength(one); i++) {
                    visit(Array.get(one, i), seen);
                }
            }
            return;
        }
        for (Field field : type.getDeclaredFields()) {
            if (!Modifier.isStatic(field.getModifiers())) {
                elements++;
                field.setAccessible(true);
                if (!field.getType().isPrimitive()) {
                    visit(field.get(one), seen);
                }
            }
        }
    }

    /** The 512th call answers what an early one did. */
    private static void lastOf512() {
        SpoutSpring x = new SpoutSpring();
        int calls = (FULL.length() + 19) / 20 + 2;
        Due.same("a spring of eight rooms", Due.spring(x, 0, FULL), 8);
        int early = x.book(0, 1000, 1);
        calls++;
        while (calls < 508) {
            x.cold(calls % 100);
            x.led(0, calls % 8, 3, 100);
            calls += 2;
        }
        x.cold(10);
        calls++;
        while (calls < 511) {
            Due.same("rooms", x.about(0), 8);
            calls++;
        }
        Due.same("the 512th call", x.book(0, 1000, 1), early);
    }

    /** The dearest calls, 512 of them each, make no objects (what the machine itself makes beside them is little). */
    private static void callsMakeNothing(SpoutSpring x) {
        for (int i = 0; i < 60; i++) {
            x.sight(1 + i, 17 * i % 1000);
        }
        for (int i = 0; i < 40; i++) {
            x.log(1 + i, 9 + i, i % 3 == 0);
        }
        makesNothing("cold and plays", i -> checksum += one(x.cold(i % 100)) + x.plays(i % 4, 1000));
        makesNothing("board", i -> checksum += x.board(1 + i % 4, i % 101, 1 + i % 99, i % 3));
        makesNothing("fits", i -> checksum += one(x.cold(i % 100)) + x.fits());
        makesNothing("thread", i -> checksum += one(x.cold(i % 100)) + x.thread(i % 16, i % 3));
        makesNothing("stolen", i -> checksum += x.stolen(i % 4, 1000));
        makesNothing("years", i -> checksum += x.years(i % 4, 100));
        makesNothing("ring", i -> checksum += x.ring(i % 4, 1000, i % 2));
        makesNothing("parts", i -> checksum += x.parts(i % 4, i % 8, 1 + i, 1000));
        makesNothing("gap", i -> checksum += x.gap(2000 - i, 1, 1 + i, 1, 1 + i, i % 2));
        makesNothing("texts", i -> checksum += x.feed(0x626f696c, 0x20373b20, 0x20202020, i, i) + x.laws() + x.spring(i % 4));
        makesNothing("told", i -> checksum += x.later(i % 3) + one(x.untell(i % 60)) + x.about(i % 13) + x.fault(i % 2));
    }

    private static int one(boolean yes) {
        return yes ? 1 : 0;
    }

    private static void makesNothing(String name, IntConsumer call) {
        if (!(ManagementFactory.getThreadMXBean() instanceof ThreadMXBean threads)) {
            return;
        }
        call.accept(0);
        long me = Thread.currentThread().getId();
        long before = threads.getThreadAllocatedBytes(me);
        for (int i = 0; i < 512; i++) {
            call.accept(i);
        }
        long made = threads.getThreadAllocatedBytes(me) - before;
        Due.yes(name + " makes " + made + " bytes by 512 calls", made < 512 * 8);
    }
}
