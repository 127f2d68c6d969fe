import java.lang.reflect.Method;
import java.lang.reflect.Modifier;
import java.util.ArrayList;
import java.util.Comparator;
import java.util.List;
import java.util.function.Supplier;
import java.util.function.ToIntFunction;

/**
 * What the tests by hand share: objects in known states, and what is asked of them. To look at all
 * of an object takes more than 512 calls; the class does not count them.
 */
final class Bench {
    static final int NO = -1000000;
    static final int MIN = Integer.MIN_VALUE;
    static final int MAX = Integer.MAX_VALUE;
    static final int[] PRIMES = {2, 3, 5, 7, 11, 13, 17, 19, 23, 29, 31, 37, 41, 43, 47, 53, 59, 61, 67, 71, 73,
        79, 83, 89, 97};
    static final Check CHECK = new Check();

    private Bench() {
    }

    // ---- the tests of a class

    /** The tests of a class: its methods that say a sentence. */
    static List<Method> testsOf(Class<?> tests) {
        List<Method> out = new ArrayList<>();
        for (Method m : tests.getDeclaredMethods()) {
            if (m.isAnnotationPresent(Says.class) && Modifier.isStatic(m.getModifiers())) {
                out.add(m);
            }
        }
        out.sort(Comparator.comparing(Method::getName));
        return out;
    }

    static void runAll(Class<?> tests) {
        for (Method m : testsOf(tests)) {
            try {
                m.invoke(null);
            } catch (ReflectiveOperationException e) {
                CHECK.holds(m.getName() + " threw " + e.getCause(), false);
            }
        }
        CHECK.end();
    }

    /** Whether one test fails; nothing is printed. */
    static boolean fails(Class<?> tests, String name) {
        CHECK.beSilent();
        try {
            tests.getDeclaredMethod(name).invoke(null);
        } catch (ReflectiveOperationException e) {
            return true;
        }
        return CHECK.anyWrong();
    }

    static void due(String call, int got, int want) {
        CHECK.due(call, got, want);
    }

    // ---- objects

    static HeapTower of(int n, int p) {
        HeapTower x = new HeapTower();
        due("letters(" + n + ", " + p + ")", x.letters(n, p), 1);
        return x;
    }

    /** Terms in fours: number, powers; the draft is wiped first. */
    static void write(HeapTower x, int... terms) {
        x.wipe();
        for (int i = 0; i < terms.length; i += 4) {
            x.term(terms[i], terms[i + 1], terms[i + 2], terms[i + 3]);
        }
    }

    static void row(HeapTower x, int... terms) {
        write(x, terms);
        int before = x.told(3);
        due("row", x.row(), before);
    }

    static void claim(HeapTower x, int row, int... terms) {
        write(x, terms);
        due("claim(" + row + ")", x.claim(row), 1);
    }

    /** Every product that there is, with number 1. */
    static void writeAll(HeapTower x) {
        x.wipe();
        for (int i = 0; i < 1331; i++) {
            x.term(1, i / 121, i / 11 % 11, i % 11);
        }
    }

    /** The heap of x x - y z and x y - z z, whose base has y y z - x z z, too. */
    static HeapTower twoCones() {
        HeapTower x = new HeapTower();
        row(x, 1, 2, 0, 0, -1, 0, 1, 1);
        row(x, 1, 1, 1, 0, -1, 0, 0, 2);
        return x;
    }

    /** All letters are rows: only numbers are standard. */
    static HeapTower allLetters(int n, int p) {
        HeapTower x = of(n, p);
        for (int l = 0; l < n; l++) {
            row(x, 1, l == 0 ? 1 : 0, l == 1 ? 1 : 0, l == 2 ? 1 : 0);
        }
        return x;
    }

    /** All six products of degree 2 are rows. */
    static HeapTower sixRows() {
        HeapTower x = new HeapTower();
        row(x, 1, 2, 0, 0);
        row(x, 1, 1, 1, 0);
        row(x, 1, 0, 2, 0);
        row(x, 1, 1, 0, 1);
        row(x, 1, 0, 1, 1);
        row(x, 1, 0, 0, 2);
        return x;
    }

    /** Nothing is as at first: three rows with claims, two rows in the other heap, a draft of degree 2. */
    static HeapTower busy() {
        HeapTower x = of(3, 11);
        due("order(1)", x.order(1), 0);
        row(x, 1, 2, 0, 0, 3, 0, 1, 1);
        row(x, 1, 0, 0, 1);
        due("keep", x.keep(), 0);
        row(x, 5, 0, 3, 0);
        claim(x, 0, 2, 0, 0, 0, 1, 0, 1, 0);
        claim(x, 1, 1, 2, 0, 0);
        claim(x, 2, 4, 0, 0, 1);
        write(x, 7, 1, 1, 0, 10, 0, 0, 2);
        return x;
    }

    /** busy() with another draft. */
    static HeapTower busyWith(int... terms) {
        HeapTower x = busy();
        write(x, terms);
        return x;
    }

    // ---- what is asked

    /** The draft has these terms and no others. */
    static void draftIs(String what, HeapTower x, int... terms) {
        due(what + ": products", x.draft(0), terms.length / 4);
        for (int i = 0; i < terms.length; i += 4) {
            due(what + ": number", x.number(terms[i + 1], terms[i + 2], terms[i + 3]), terms[i]);
        }
    }

    /** The call is refused, and all is then as it is in a twin that was not called. */
    static void refused(String what, Supplier<HeapTower> state, ToIntFunction<HeapTower> call) {
        HeapTower x = state.get();
        due(what, call.applyAsInt(x), NO);
        CHECK.holds(what + " changed nothing", whole(x).equals(whole(state.get())));
    }

    /** Refused in a busy state. */
    static void refused(String what, ToIntFunction<HeapTower> call) {
        refused(what, Bench::busy, call);
    }

    /** All that an object holds, as its calls tell it; the object is used up. */
    static String whole(HeapTower x) {
        StringBuilder out = new StringBuilder();
        for (int i = 0; i < 5; i++) {
            out.append(x.told(i)).append(' ');
            for (int d = 0; d <= 10; d++) {
                out.append(x.dimension(i, d)).append(' ');
            }
        }
        draftOf(x, out);
        for (int i = 0; i < 6; i++) {
            out.append(x.sum()).append(' ');
            draftOf(x, out);
            out.append(x.copy(x.told(3) - 1)).append(' ');
            draftOf(x, out);
            out.append(x.drop()).append(' ');
        }
        out.append(x.swap()).append(' ');
        for (int i = 0; i < 6; i++) {
            out.append(x.copy(i)).append(' ');
            draftOf(x, out);
        }
        return out.toString();
    }

    private static void draftOf(HeapTower x, StringBuilder out) {
        for (int i = 0; i < 1331; i++) {
            int c = x.number(i / 121, i / 11 % 11, i % 11);
            if (c != 0 && c != NO) {
                out.append(i).append(':').append(c).append(' ');
            }
        }
        out.append("; ");
    }
}
