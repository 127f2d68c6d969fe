import java.lang.management.ManagementFactory;
import java.lang.reflect.Array;
import java.lang.reflect.Field;
import java.lang.reflect.Modifier;
import java.util.ArrayDeque;
import java.util.Deque;
import java.util.IdentityHashMap;
import java.util.Map;

/**
 * All calls of one run live in one room: a run of 512 calls fits it, whichever they are, as no call,
 * a new object's making among them, takes more than its share. Once its bases are made, an object
 * takes nothing more.
 */
public final class RoomTest {
    private static final Check CHECK = new Check();
    private static final int CALLS = 513;
    private static final long OBJECTS_OF_ONE_CALL = 600_000 / CALLS;
    private static final long ELEMENTS_OF_ONE_CALL = 7_300_000 / CALLS;

    private RoomTest() {
    }

    public static void main(String[] args) throws Exception {
        HeapTower x = new HeapTower();
        long[] fresh = room(x);
        tell("a new object", fresh);
        share("a new object", fresh, new long[2]);
        eachCall();
        calls(x, 2);
        long[] used = room(x);
        tell("with all its bases", used);
        CHECK.holds("elements with all bases", used[1] <= 25000);
        long before = allocated();
        long idle = allocated() - before;
        before = allocated();
        calls(x, 40);
        long taken = allocated() - before - idle;
        CHECK.holds("calls make nothing: " + taken + " bytes", taken <= 4096);
        long[] later = room(x);
        CHECK.due("objects after calls", later[0], used[0]);
        CHECK.due("elements after calls", later[1], used[1]);
        CHECK.end();
    }

    private static void tell(String what, long[] room) {
        System.out.println(what + ": " + room[0] + " objects and arrays, " + room[1] + " fields and elements");
    }

    private static void share(String what, long[] now, long[] before) {
        CHECK.holds(what + ": objects of one call", now[0] - before[0] <= OBJECTS_OF_ONE_CALL);
        CHECK.holds(what + ": elements of one call", now[1] - before[1] <= ELEMENTS_OF_ONE_CALL);
    }

    /** The first call on an object that has rows in both heaps and a draft takes the most. */
    private static void eachCall() throws Exception {
        String[] names = {"dimension 2", "dimension 3", "dimension 4", "regular", "quotient", "parts", "free",
            "element", "rest"};
        for (String name : names) {
            HeapTower x = Bench.busy();
            long[] before = room(x);
            long bytes = allocated();
            call(x, name);
            bytes = allocated() - bytes;
            share(name, room(x), before);
            CHECK.holds(name + ": what is not kept counts, too: " + bytes, bytes <= 4 * ELEMENTS_OF_ONE_CALL);
        }
    }

    private static int call(HeapTower x, String name) {
        switch (name) {
            case "dimension 2":
                return x.dimension(2, 10);
            case "dimension 3":
                return x.dimension(3, 10);
            case "dimension 4":
                return x.dimension(4, 10);
            case "regular":
                return x.regular();
            case "quotient":
                return x.quotient(8);
            case "parts":
                return x.parts();
            case "free":
                return x.free(3, 10);
            case "element":
                return x.element(0);
            default:
                return x.rest();
        }
    }

    private static long allocated() {
        return ((com.sun.management.ThreadMXBean) ManagementFactory.getThreadMXBean())
                .getCurrentThreadAllocatedBytes();
    }

    private static void write(HeapTower x, int d, int seed) {
        x.wipe();
        for (int i = 0; i <= d; i++) {
            for (int j = 0; i + j <= d; j++) {
                x.term(seed * 31 + i * i * 7 + j * 5 + 1, i, j, d - i - j);
            }
        }
    }

    /** Every call, on heaps of six rows in three letters. */
    private static void calls(HeapTower x, int rounds) {
        for (int round = 0; round < rounds; round++) {
            x.letters(3, 97);
            x.order(round % 2);
            for (int r = 0; r < 6; r++) {
                write(x, 1 + (r + round) % 5, r + round);
                x.row();
                write(x, 3, r);
                x.claim(r);
            }
            x.keep();
            x.drop();
            x.swap();
            for (int d = 0; d <= 10; d++) {
                for (int k = 0; k < 5; k++) {
                    x.dimension(k, d);
                    x.free(k, d);
                    x.told(k);
                    x.draft(k);
                }
                write(x, d, round);
                x.base(d);
                x.count(d);
                x.in();
                x.quotient(1);
                x.regular();
                x.times(1, 1, 0);
                x.rest();
                x.element(d);
                x.copy(d);
                x.number(1, 2, 3);
            }
            x.parts();
            x.sum();
        }
    }

    /** Objects and arrays, and fields and elements, that are reached from an object. */
    private static long[] room(Object root) throws Exception {
        Map<Object, Boolean> seen = new IdentityHashMap<>();
        Deque<Object> open = new ArrayDeque<>();
        open.add(root);
        seen.put(root, true);
        long parts = 0;
        while (!open.isEmpty()) {
            Object o = open.poll();
            if (o.getClass().isArray()) {
                parts += Array.getLength(o);
                for (int i = 0; o instanceof Object[] && i < Array.getLength(o); i++) {
                    reach(Array.get(o, i), seen, open);
                }
                continue;
            }
            for (Field f : o.getClass().getDeclaredFields()) {
                if (!Modifier.isStatic(f.getModifiers())) {
                    parts++;
                    f.setAccessible(true);
                    reach(f.getType().isPrimitive() ? null : f.get(o), seen, open);
                }
            }
        }
        return new long[] {seen.size(), parts};
    }

    private static void reach(Object o, Map<Object, Boolean> seen, Deque<Object> open) {
        if (o != null && seen.put(o, true) == null) {
            open.add(o);
        }
    }
}
