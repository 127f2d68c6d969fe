import java.util.Random;

/** Runs of random calls, the same every time, beside the model; the drafts are compared whole. */
public final class AgainstModelTest {
    private static final int NO = HeapTower.NO;
    private static final int[] PRIMES = {2, 3, 5, 7, 31, 97};

    private final Check check;
    private final Random random;
    private final HeapTower real = new HeapTower();
    private final Model model = new Model();
    private final StringBuilder log = new StringBuilder();
    private int letters = 3;

    private AgainstModelTest(Check check, long seed) {
        this.check = check;
        this.random = new Random(seed);
        log.append("seed ").append(seed).append(": ");
    }

    public static void main(String[] args) {
        Check check = new Check();
        int runs = args.length > 0 ? Integer.parseInt(args[0]) : 60;
        long from = args.length > 1 ? Long.parseLong(args[1]) : 1;
        for (long seed = from; seed < from + runs && !check.anyWrong(); seed++) {
            new AgainstModelTest(check, seed).run(120);
        }
        check.end();
    }

    private void run(int calls) {
        for (int i = 0; i < calls && !check.anyWrong(); i++) {
            int kind = random.nextInt(100);
            if (kind < 30) {
                draftCall();
            } else if (kind < 48) {
                rowCall();
            } else if (kind < 80) {
                heapCall();
            } else if (kind < 95) {
                twoHeapsCall();
            } else {
                settingCall();
            }
            sameDraft();
        }
    }

    private void due(String call, int got, int want) {
        log.append(call).append(" = ").append(want).append("; ");
        if (got != want) {
            System.out.println(log);
        }
        check.due(call, got, want);
    }

    private void sameDraft() {
        StringBuilder out = new StringBuilder();
        for (int d = 0; d <= 10; d++) {
            for (int x = d; x >= 0; x--) {
                for (int y = d - x; y >= 0; y--) {
                    out.append(Math.max(0, real.number(x, y, d - x - y))).append(' ');
                }
            }
        }
        if (!out.toString().equals(model.draftText())) {
            System.out.println(log);
            check.holds("the draft", false);
        }
    }

    private void draftCall() {
        switch (random.nextInt(6)) {
            case 0: {
                int what = random.nextInt(6) - 1;
                due("draft(" + what + ")", real.draft(what), model.draft(what));
                break;
            }
            case 1: {
                int x = random.nextInt(3);
                int y = random.nextInt(3);
                int z = random.nextInt(3);
                due("times(" + x + "," + y + "," + z + ")", real.times(x, y, z), model.times(x, y, z));
                break;
            }
            case 2:
                due("wipe()", real.wipe(), model.wipe());
                break;
            case 3: {
                int x = random.nextInt(13) - 1;
                int y = random.nextInt(4) - 1;
                int z = random.nextInt(4) - 1;
                due("number(" + x + "," + y + "," + z + ")", real.number(x, y, z), model.number(x, y, z));
                break;
            }
            default:
                term(random.nextInt(), random.nextInt(6) - 1, random.nextInt(4) - 1, random.nextInt(4) - 1);
        }
    }

    private void term(int c, int x, int y, int z) {
        due("term(" + c + "," + x + "," + y + "," + z + ")", real.term(c, x, y, z), model.term(c, x, y, z));
    }

    private void randomTerm(int d) {
        int y = letters > 1 ? random.nextInt(d + 1) : 0;
        int z = letters > 2 ? random.nextInt(d - y + 1) : 0;
        term(1 + random.nextInt(200), d - y - z, y, z);
    }

    /** Writes an even draft of a degree, with few or many products. */
    private void writeEven(int d) {
        due("wipe()", real.wipe(), model.wipe());
        int many = random.nextInt(4) == 0 ? 12 : 1 + random.nextInt(3);
        for (int i = 0; i < many; i++) {
            randomTerm(d);
        }
    }

    private void rowCall() {
        switch (random.nextInt(7)) {
            case 0:
                due("drop()", real.drop(), model.drop());
                break;
            case 1: {
                int r = random.nextInt(8) - 1;
                due("copy(" + r + ")", real.copy(r), model.copy(r));
                break;
            }
            case 2: {
                int r = random.nextInt(7) - 1;
                due("claim(" + r + ")", real.claim(r), model.claim(r));
                break;
            }
            case 3:
                due("sum()", real.sum(), model.sum());
                break;
            default:
                writeEven(1 + random.nextInt(random.nextInt(5) == 0 ? 6 : 4));
                due("row()", real.row(), model.row());
        }
    }

    private void heapCall() {
        int d = random.nextInt(13) - 1;
        switch (random.nextInt(8)) {
            case 0:
                due("rest()", real.rest(), model.rest());
                break;
            case 1:
                due("in()", real.in(), model.in());
                break;
            case 2:
                due("base(" + d + ")", real.base(d), model.base(d));
                break;
            case 3: {
                int k = random.nextInt(14) - 1;
                due("element(" + k + ")", real.element(k), model.element(k));
                break;
            }
            case 4:
                due("count(" + d + ")", real.count(d), model.count(d));
                break;
            case 5:
                writeEven(random.nextInt(11));
                for (int i = random.nextInt(3); i > 0; i--) {
                    randomTerm(random.nextInt(11));
                }
                due("in()", real.in(), model.in());
                due("rest()", real.rest(), model.rest());
                break;
            default: {
                int i = random.nextInt(6) - 1;
                due("free(" + i + "," + d + ")", real.free(i, d), model.free(i, d));
            }
        }
    }

    private void twoHeapsCall() {
        int d = random.nextInt(13) - 1;
        switch (random.nextInt(10)) {
            case 0:
                due("keep()", real.keep(), model.keep());
                break;
            case 1:
                due("swap()", real.swap(), model.swap());
                break;
            case 2:
                due("parts()", real.parts(), model.parts());
                break;
            case 3:
                due("regular()", real.regular(), model.regular());
                break;
            case 4:
                writeEven(random.nextInt(4));
                due("quotient(" + d + ")", real.quotient(d), model.quotient(d));
                due("regular()", real.regular(), model.regular());
                break;
            case 5:
                due("quotient(" + d + ")", real.quotient(d), model.quotient(d));
                break;
            default: {
                int which = random.nextInt(7) - 1;
                due("dimension(" + which + "," + d + ")", real.dimension(which, d), model.dimension(which, d));
            }
        }
    }

    private void settingCall() {
        int kind = random.nextInt(10);
        if (kind < 5) {
            int order = random.nextInt(4) - 1;
            due("order(" + order + ")", real.order(order), model.order(order));
        } else if (kind < 7) {
            int n = random.nextInt(4) == 0 ? random.nextInt(6) - 1 : 2 + random.nextInt(2);
            int p = random.nextInt(4) == 0 ? random.nextInt(110) - 5 : PRIMES[random.nextInt(PRIMES.length)];
            int answer = model.letters(n, p);
            letters = answer == NO ? letters : n;
            due("letters(" + n + "," + p + ")", real.letters(n, p), answer);
        } else {
            int what = random.nextInt(7) - 1;
            due("told(" + what + ")", real.told(what), model.told(what));
        }
    }
}
