import java.lang.management.ManagementFactory;
import java.lang.reflect.Array;
import java.lang.reflect.Field;
import java.lang.reflect.Modifier;
import java.util.IdentityHashMap;
import java.util.Map;

/** The room that all calls of a run share: how much a new object takes, and that calls take nothing more. */
public final class RoomTest {
    private static final Check CHECK = new Check("RoomTest");
    private static final int OBJECTS = 600_000, ELEMENTS = 7_300_000, CALLS = 512;

    public static void main(String[] args) throws Exception {
        RedSky x = new RedSky();
        Map<Object, Integer> seen = new IdentityHashMap<>();
        measure(x, seen);
        long elements = seen.values().stream().mapToLong(i -> i).sum();
        System.out.println("RoomTest: a new object has " + seen.size() + " objects, " + elements + " elements");
        CHECK.holds("objects, if every call made one anew", seen.size() * (long) CALLS < OBJECTS);
        CHECK.holds("elements, if every call made one anew", elements * CALLS < ELEMENTS);
        // the first round is for the machine to load what it needs
        go(new RedSky());
        RedSky y = new RedSky();
        long before = allocated();
        go(y);
        long taken = allocated() - before;
        CHECK.holds("a run of calls took " + taken + " bytes", taken < 2000);
        CHECK.end();
    }

    private static long allocated() {
        var threads = (com.sun.management.ThreadMXBean) ManagementFactory.getThreadMXBean();
        return threads.getThreadAllocatedBytes(Thread.currentThread().getId());
    }

    private static void measure(Object o, Map<Object, Integer> seen) throws Exception {
        if (o == null || seen.containsKey(o)) {
            return;
        }
        if (o.getClass().isArray()) {
            seen.put(o, Array.getLength(o));
            for (int i = 0; !o.getClass().getComponentType().isPrimitive() && i < Array.getLength(o); i++) {
                measure(Array.get(o, i), seen);
            }
            return;
        }
        int fields = 0;
        seen.put(o, 0);
        for (Field f : o.getClass().getDeclaredFields()) {
            if (!Modifier.isStatic(f.getModifiers())) {
                fields++;
                f.setAccessible(true);
                if (!f.getType().isPrimitive()) {
                    measure(f.get(o), seen);
                }
            }
        }
        seen.put(o, fields);
    }

    /** Every call once at least, on diaries and sayings that are there. */
    private static void go(RedSky x) {
        for (int y = 0; y < 4; y++) {
            x.write(0, y, 5 + y, 20);
            x.draw(0, y, 6 + y);
            x.copy(1, 0, y, 7);
        }
        x.saint(2, 6, 24, 1, 11);
        for (int k = 0; k < 9; k++) {
            x.letters(0x3a333e5726313d53L);
            x.letters(0x303e527e31L);
            x.letters(0x322340L);
            x.good();
            x.say();
        }
        x.blank();
        x.age(1, 4);
        x.set(0, 0, 0, 0, true);
        for (int i = 0; i < 8; i++) {
            x.truth(i, 0, 500, 1);
            x.cases(i, 0, 0, 3, 1);
            x.month(i, 0, 6, 1);
            x.worth(i, 0);
            x.expected(i, 0);
            x.turned(i, 0, 2, 1);
            x.chance(i, 0);
            x.parted(i, 0, 0);
            x.one(i, 1);
            x.home(i);
            x.learn(0, i, 2, 5);
            x.entry(i);
            x.list(i);
            x.asks(i, 8);
        }
        x.foretell(2, 5, 1);
        x.wrong(0, 0);
        x.shared(0, 1, 0, 1);
        x.alike(0, 1, 0, 12);
        x.source(1, 0, 10);
        x.spring(1, 0, 10);
        x.day(0, 2, 3);
        x.date(44, 1);
        x.feast(2, 2);
        x.get(0, 4, 2);
        x.kept(0, 1);
        x.count(0);
        x.digest();
        x.forget();
        x.first(2);
    }
}
