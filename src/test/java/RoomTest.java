import java.lang.management.ManagementFactory;
import java.lang.reflect.Array;
import java.lang.reflect.Field;
import java.lang.reflect.Modifier;
import java.util.ArrayDeque;
import java.util.Deque;
import java.util.IdentityHashMap;
import java.util.Map;

/** What an object takes when it is made, and that its calls take nothing more. */
public final class RoomTest {
    private static final Check CHECK = new Check();

    public static void main(String[] args) throws Exception {
        HeapTower x = new HeapTower();
        long[] fresh = room(x);
        System.out.println("a new object: " + fresh[0] + " objects and arrays, " + fresh[1] + " fields and elements");
        CHECK.holds("objects of a new one", fresh[0] <= 600);
        CHECK.holds("elements of a new one", fresh[1] <= 50000);
        calls(new HeapTower(), 2);
        long before = allocated();
        long idle = allocated() - before;
        before = allocated();
        calls(x, 40);
        long taken = allocated() - before - idle;
        CHECK.holds("calls make nothing: " + taken + " bytes", taken <= 4096);
        long[] used = room(x);
        CHECK.due("objects after calls", used[0], fresh[0]);
        CHECK.due("elements after calls", used[1], fresh[1]);
        CHECK.end();
    }

    private static long allocated() {
        return ((com.sun.management.ThreadMXBean) ManagementFactory.getThreadMXBean())
                .getCurrentThreadAllocatedBytes();
    }

    private static void write(HeapTower x, int d, int seed) {
        x.wipe();
        for (int i = 0; i <= d; i++) {
            for (int j = 0; i + j <= d; j++) {
                x.term(seed * 31 + i * i * 7 + j * 5 + 1, i, j, d - i - j);
            }
        }
    }

    /** Every call, on heaps of six rows in three letters. */
    private static void calls(HeapTower x, int rounds) {
        for (int round = 0; round < rounds; round++) {
            x.letters(3, 97);
            x.order(round % 2);
            for (int r = 0; r < 6; r++) {
                write(x, 1 + (r + round) % 5, r + round);
                x.row();
                write(x, 3, r);
                x.claim(r);
            }
            x.keep();
            x.drop();
            x.swap();
            for (int d = 0; d <= 10; d++) {
                for (int k = 0; k < 5; k++) {
                    x.dimension(k, d);
                    x.free(k, d);
                    x.told(k);
                    x.draft(k);
                }
                write(x, d, round);
                x.base(d);
                x.count(d);
                x.in();
                x.quotient(1);
                x.regular();
                x.times(1, 1, 0);
                x.rest();
                x.element(d);
                x.copy(d);
                x.number(1, 2, 3);
            }
            x.parts();
            x.sum();
        }
    }

    /** Objects and arrays, and fields and elements, that are reached from an object. */
    private static long[] room(Object root) throws Exception {
        Map<Object, Boolean> seen = new IdentityHashMap<>();
        Deque<Object> open = new ArrayDeque<>();
        open.add(root);
        seen.put(root, true);
        long parts = 0;
        while (!open.isEmpty()) {
            Object o = open.poll();
            if (o.getClass().isArray()) {
                parts += Array.getLength(o);
                for (int i = 0; o instanceof Object[] && i < Array.getLength(o); i++) {
                    reach(Array.get(o, i), seen, open);
                }
                continue;
            }
            for (Field f : o.getClass().getDeclaredFields()) {
                if (!Modifier.isStatic(f.getModifiers())) {
                    parts++;
                    f.setAccessible(true);
                    reach(f.getType().isPrimitive() ? null : f.get(o), seen, open);
                }
            }
        }
        return new long[] {seen.size(), parts};
    }

    private static void reach(Object o, Map<Object, Boolean> seen, Deque<Object> open) {
        if (o != null && seen.put(o, true) == null) {
            open.add(o);
        }
    }
}
