import java.util.Random;

/** Heaps of many kinds, each asked everything that may be asked of it, beside the model. */
public final class WholeHeapsTest {
    private static final int[] PRIMES = {2, 3, 7, 97};

    /** Where a base of a sum, a quotient, a product is wrong if it outlives a change of order. */
    private static final int[] ORDER_TELLS = {2015, 2143, 2917};

    private final Check check;
    private final Random random;
    private final int letters;
    private final int kind;
    private final HeapTower real = new HeapTower();
    private final Model model = new Model();
    private final String name;

    private WholeHeapsTest(Check check, int seed) {
        this.check = check;
        this.random = new Random(seed);
        this.letters = seed % 7 == 0 ? 1 : seed % 3 == 0 ? 2 : 3;
        this.kind = seed % 4;
        this.name = "heap " + seed + ": ";
    }

    public static void main(String[] args) {
        Check check = new Check();
        int heaps = args.length > 0 ? Integer.parseInt(args[0]) : 48;
        int from = args.length > 1 ? Integer.parseInt(args[1]) : 1;
        for (int seed = from; seed < from + heaps && !check.anyWrong(); seed++) {
            new WholeHeapsTest(check, seed).run();
        }
        for (int seed : ORDER_TELLS) {
            new WholeHeapsTest(check, seed).run();
        }
        check.end();
    }

    private void due(String call, int got, int want) {
        check.due(name + call, got, want);
    }

    private void run() {
        int p = PRIMES[random.nextInt(PRIMES.length)];
        due("letters", real.letters(letters, p), model.letters(letters, p));
        int order = random.nextInt(2);
        due("order", real.order(order), model.order(order));
        rows(1 + random.nextInt(6));
        askHeap();
        due("order", real.order(1 - order), model.order(1 - order));
        askHeap();
        due("keep", real.keep(), model.keep());
        int drops = random.nextInt(3);
        for (int i = 0; i < drops; i++) {
            due("drop", real.drop(), model.drop());
        }
        rows(1 + random.nextInt(3));
        askTwoHeaps();
        due("swap", real.swap(), model.swap());
        askTwoHeaps();
        askUpwards();
        askQuotients();
        askQuotientsUpwards();
        askAfterRowsOfTheBase();
    }

    private void rows(int many) {
        for (int i = 0; i < many; i++) {
            write(1 + random.nextInt(5));
            due("row", real.row(), model.row());
        }
    }

    /** A draft of one product, of two, of few, or of all products of a degree. */
    private void write(int d) {
        due("wipe", real.wipe(), model.wipe());
        int many = kind == 0 ? 1 : kind == 1 ? 2 : kind == 2 ? 4 : 40;
        for (int i = 0; i < many; i++) {
            int y = letters > 1 ? random.nextInt(d + 1) : 0;
            int z = letters > 2 ? random.nextInt(d - y + 1) : 0;
            int c = 1 + random.nextInt(96);
            due("term", real.term(c, d - y - z, y, z), model.term(c, d - y - z, y, z));
        }
    }

    private void sameDraft(String what) {
        StringBuilder out = new StringBuilder();
        for (int d = 0; d <= 10; d++) {
            for (int x = d; x >= 0; x--) {
                for (int y = d - x; y >= 0; y--) {
                    out.append(Math.max(0, real.number(x, y, d - x - y))).append(' ');
                }
            }
        }
        check.holds(name + what, out.toString().equals(model.draftText()));
    }

    private void askHeap() {
        int last = model.base(10);
        for (int d = 10; d >= 1; d--) {
            due("base(" + d + ")", real.base(d), model.base(d));
        }
        for (int k = 0; k <= last; k++) {
            due("element(" + k + ")", real.element(k), model.element(k));
            sameDraft("element(" + k + ")");
            due("head", real.draft(3), model.draft(3));
        }
        for (int d = 0; d <= 10; d++) {
            due("count(" + d + ")", real.count(d), model.count(d));
            for (int i = 0; i <= 3; i++) {
                due("free(" + i + ", " + d + ")", real.free(i, d), model.free(i, d));
            }
        }
        for (int d = 10; d >= 1; d -= 3) {
            write(d);
            due("in", real.in(), model.in());
            due("rest", real.rest(), model.rest());
            sameDraft("rest");
        }
    }

    private void askTwoHeaps() {
        due("parts", real.parts(), model.parts());
        for (int d = 10; d >= 0; d--) {
            for (int which = 0; which < 5; which++) {
                due("dimension(" + which + ", " + d + ")", real.dimension(which, d), model.dimension(which, d));
            }
        }
    }

    private void turnOrder() {
        int order = 1 - model.told(2);
        due("order", real.order(order), model.order(order));
    }

    /** Bases that are built by turns, a degree at a time, with a change now and then. */
    private void askUpwards() {
        for (int change = 0; change < 4; change++) {
            int when = 2 + random.nextInt(7);
            for (int d = 0; d <= 10; d++) {
                if (d == when && change < 2) {
                    turnOrder();
                }
                if (d == when && change == 2) {
                    due("swap", real.swap(), model.swap());
                }
                if (d == when && change == 3) {
                    due("drop", real.drop(), model.drop());
                    rows(1);
                }
                due("count(" + d + ")", real.count(d), model.count(d));
                for (int which = 4; which >= 0; which--) {
                    due("dimension(" + which + ", " + d + ")", real.dimension(which, d), model.dimension(which, d));
                }
            }
            turnOrder();
        }
    }

    /** A quotient's base, too, with a change between its degrees. */
    private void askQuotientsUpwards() {
        for (int change = 0; change < 5; change++) {
            write(1 + random.nextInt(2));
            int when = 1 + random.nextInt(6);
            for (int d = 0; d <= 8; d++) {
                if (d == when && change == 0) {
                    turnOrder();
                }
                if (d == when && change == 1) {
                    due("swap", real.swap(), model.swap());
                }
                if (d == when && change == 2) {
                    due("drop", real.drop(), model.drop());
                }
                if (d == when && change == 3) {
                    due("keep", real.keep(), model.keep());
                }
                if (d == when && change == 4) {
                    due("times", real.times(1, 0, 0), model.times(1, 0, 0));
                }
                due("quotient(" + d + ")", real.quotient(d), model.quotient(d));
            }
            due("regular", real.regular(), model.regular());
        }
    }

    /** The other heap by rows of its own base: often the same heap, by other rows. */
    private void askAfterRowsOfTheBase() {
        due("keep", real.keep(), model.keep());
        while (model.told(3) > 0) {
            due("drop", real.drop(), model.drop());
        }
        for (int k = 0; k < 6; k++) {
            due("swap", real.swap(), model.swap());
            due("element", real.element(k), model.element(k));
            due("swap", real.swap(), model.swap());
            due("row", real.row(), model.row());
            due("parts", real.parts(), model.parts());
            turnOrder();
            due("parts", real.parts(), model.parts());
        }
    }

    private void askQuotients() {
        for (int degree = 0; degree <= 10; degree++) {
            write(degree);
            due("regular", real.regular(), model.regular());
            for (int d = 0; d <= 10; d++) {
                due("quotient(" + d + ")", real.quotient(d), model.quotient(d));
            }
        }
    }
}
