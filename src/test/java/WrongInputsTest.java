import java.util.Random;

/** Any arguments in any state: no call throws, and a refused one changes nothing. */
public final class WrongInputsTest {
    private static final Check CHECK = new Check();
    private static final int[] ODD = {Integer.MIN_VALUE, Integer.MIN_VALUE + 1, -1000000, -1, 0, 1, 2, 3, 4, 5, 6, 7,
        10, 11, 12, 66, 97, 286, 1 << 30, Integer.MAX_VALUE - 1, Integer.MAX_VALUE};

    public static void main(String[] args) {
        for (int seed = 1; seed <= 12; seed++) {
            run(new Random(seed));
        }
        CHECK.end();
    }

    private static void run(Random random) {
        HeapTower x = new HeapTower();
        for (int i = 0; i < 500; i++) {
            // Now and then a row or a term that is right, so that states are many.
            if (random.nextInt(3) == 0) {
                right(x, random);
            }
            String before = state(x);
            int call = random.nextInt(25);
            int answer = wild(x, random, call);
            if (answer == HeapTower.NO) {
                CHECK.holds("call " + call + " was refused and changed something", state(x).equals(before));
            } else {
                CHECK.holds("call " + call + " answered " + answer, answer >= -1);
            }
        }
    }

    private static void right(HeapTower x, Random random) {
        if (random.nextInt(2) == 0) {
            x.term(random.nextInt(), random.nextInt(3), 0, 0);
            return;
        }
        x.wipe();
        int d = 1 + random.nextInt(5);
        for (int i = 0; i < 3; i++) {
            int y = random.nextInt(d + 1);
            x.term(1 + random.nextInt(6), d - y, y, 0);
        }
        if (random.nextInt(2) == 0) {
            x.row();
        } else {
            x.claim(random.nextInt(6));
        }
    }

    private static int odd(Random random) {
        return ODD[random.nextInt(ODD.length)];
    }

    private static int wild(HeapTower x, Random random, int call) {
        int a = odd(random);
        int b = odd(random);
        int c = odd(random);
        switch (call) {
            case 0: return random.nextInt(4) == 0 ? x.letters(a, b) : x.letters(0, b);
            case 1: return x.order(a);
            case 2: return x.term(odd(random), a, b, c);
            case 3: return x.number(a, b, c);
            case 4: return x.wipe();
            case 5: return x.draft(a);
            case 6: return x.times(a, b, c);
            case 7: return x.row();
            case 8: return x.drop();
            case 9: return x.copy(a);
            case 10: return x.rest();
            case 11: return x.in();
            case 12: return x.base(a);
            case 13: return x.element(a);
            case 14: return x.count(a);
            case 15: return x.free(a, b);
            case 16: return x.quotient(a);
            case 17: return x.regular();
            case 18: return x.keep();
            case 19: return x.swap();
            case 20: return x.dimension(a, b);
            case 21: return x.parts();
            case 22: return x.claim(a);
            case 23: return x.sum();
            default: return x.told(a);
        }
    }

    /** All that can be asked without a change. */
    private static String state(HeapTower x) {
        StringBuilder out = new StringBuilder();
        for (int i = 0; i < 5; i++) {
            out.append(x.told(i)).append(' ');
            for (int d = 0; d <= 5; d++) {
                out.append(x.dimension(i, d)).append(' ');
            }
        }
        for (int i = 0; i < 1331; i++) {
            if (i / 121 + i / 11 % 11 + i % 11 <= 10) {
                out.append(x.number(i / 121, i / 11 % 11, i % 11)).append(' ');
            }
        }
        return out.append(x.draft(3)).toString();
    }
}
