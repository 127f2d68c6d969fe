/** Each promise of the document by hand: ordinary inputs, the edges it names, wrong inputs. */
public final class PromisesTest {
    private static final int NO = Bench.NO;
    private static final int MIN = Bench.MIN;
    private static final int MAX = Bench.MAX;

    private static void due(String call, int got, int want) {
        Bench.due(call, got, want);
    }

    public static void main(String[] args) {
        aNewObject();
        letters();
        order();
        term();
        number();
        wipe();
        draft();
        times();
        row();
        drop();
        copy();
        rest();
        in();
        base();
        element();
        count();
        free();
        quotient();
        regular();
        keep();
        swap();
        dimension();
        parts();
        claim();
        sum();
        told();
        Bench.CHECK.end();
    }

    // ---- 1

    private static void aNewObject() {
        HeapTower x = new HeapTower();
        due("new: letters", x.told(0), 3);
        due("new: P", x.told(1), 7);
        due("new: order", x.told(2), 0);
        due("new: rows", x.told(3), 0);
        due("new: other rows", x.told(4), 0);
        due("new: draft", x.draft(0), 0);
        due("new: sum", x.sum(), 0);
        due("new: base", x.base(10), 0);
        due("new: parts", x.parts(), -1);
        HeapTower y = new HeapTower();
        x.term(1, 1, 0, 0);
        x.row();
        due("objects are apart", y.told(3), 0);
        due("NO", HeapTower.NO, NO);
    }

    // ---- 2

    private static void letters() {
        HeapTower x = new HeapTower();
        x.order(1);
        Bench.row(x, 1, 1, 0, 0);
        x.keep();
        Bench.write(x, 3, 0, 1, 0);
        due("claim", x.claim(0), 1);
        Bench.write(x, 2, 0, 0, 1);
        String primes = " 2 3 5 7 11 13 17 19 23 29 31 37 41 43 47 53 59 61 67 71 73 79 83 89 97 ";
        for (int p = -100; p <= 130; p++) {
            if (!primes.contains(" " + p + " ")) {
                due("letters(3, " + p + ")", x.letters(3, p), NO);
            }
        }
        int[] wrong = {0, 4, -1, MIN, MAX};
        for (int n : wrong) {
            due("letters(" + n + ", 7)", x.letters(n, 7), NO);
        }
        due("letters(3, MAX)", x.letters(3, MAX), NO);
        due("letters(3, MIN)", x.letters(3, MIN), NO);
        due("a refused one leaves P", x.told(1), 7);
        due("a refused one leaves rows", x.told(3), 1);
        due("a refused one leaves the other", x.told(4), 1);
        Bench.draftIs("a refused one leaves the draft", x, 2, 0, 0, 1);
        due("a refused one leaves claims", x.sum(), 1);
        due("letters(3, 7)", x.letters(3, 7), 1);
        due("letters: rows", x.told(3), 0);
        due("letters: other rows", x.told(4), 0);
        due("letters: the order stays", x.told(2), 1);
        due("letters: draft", x.draft(0), 0);
        Bench.row(x, 1, 1, 0, 0);
        due("letters: claims", x.sum(), 0);
        for (int p = 2; p <= 97; p++) {
            if (primes.contains(" " + p + " ")) {
                due("letters(2, " + p + ")", x.letters(2, p), 1);
                due("P", x.told(1), p);
                due("-1", x.term(-1, 0, 0, 0), p - 1);
                Bench.row(x, p - 1, 1, 0, 0, 1, 0, 1, 0);
                Bench.write(x, 1, 1, 0, 0);
                x.rest();
                Bench.draftIs("numbers have inverses", x, 1, 0, 1, 0);
            }
        }
        due("letters(1, 2)", x.letters(1, 2), 1);
        due("letters: 1", x.told(0), 1);
        due("letters: count", x.count(10), 1);
    }

    // ---- 3

    private static void order() {
        HeapTower x = new HeapTower();
        Bench.write(x, 1, 1, 0, 1, 2, 0, 2, 0);
        due("by the last letter", x.draft(3), 200);
        due("order(1)", x.order(1), 0);
        due("by the first letter", x.draft(3), 10001);
        due("order(1) again", x.order(1), 1);
        due("order(2)", x.order(2), NO);
        due("order(-1)", x.order(-1), NO);
        due("order(MIN)", x.order(MIN), NO);
        due("a refused order", x.told(2), 1);
        due("row", x.row(), 0);
        Bench.write(x, 1, 1, 0, 1);
        due("x z leads", x.rest(), 1);
        Bench.draftIs("x z by order 1", x, 5, 0, 2, 0);
        due("order(0)", x.order(0), 1);
        due("the draft stays", x.number(0, 2, 0), 5);
        due("y y leads", x.rest(), 1);
        // 5 y y = -5/2 x z = x z, modulo 7.
        Bench.draftIs("y y by order 0", x, 1, 1, 0, 1);
        due("rows stay", x.told(3), 1);
        // Of one power of the last letter the letter before it tells.
        Bench.write(x, 1, 0, 2, 1, 1, 1, 1, 1, 1, 2, 0, 1);
        due("lesser power of letter 1", x.draft(3), 20001);
        x.order(1);
        Bench.write(x, 1, 1, 0, 2, 1, 1, 1, 1);
        due("greater power of letter 1", x.draft(3), 10101);
    }

    // ---- 4

    private static void term() {
        HeapTower x = new HeapTower();
        due("term", x.term(3, 1, 2, 3), 3);
        due("term again", x.term(5, 1, 2, 3), 1);
        due("term to 0", x.term(6, 1, 2, 3), 0);
        due("no products", x.draft(0), 0);
        due("negative", x.term(-1, 0, 0, 0), 6);
        due("the least number", x.term(MIN, 10, 0, 0), 5);
        due("the greatest number", x.term(MAX, 0, 10, 0), 1);
        due("added to the greatest", x.term(MAX, 0, 10, 0), 2);
        due("degree 10", x.term(1, 3, 3, 4), 1);
        due("degree 11", x.term(1, 3, 4, 4), NO);
        due("x below 0", x.term(1, -1, 1, 1), NO);
        due("y below 0", x.term(1, 1, -1, 1), NO);
        due("z below 0", x.term(1, 1, 1, -1), NO);
        due("all below 0", x.term(1, MIN, MIN, MIN), NO);
        due("powers that wrap around", x.term(1, MAX, MAX, 2), NO);
        due("powers that wrap around", x.term(1, MAX, 1, 0), NO);
        due("powers that wrap around", x.term(1, 1 << 30, 1 << 30, MIN), NO);
        due("number 0 of a wrong product", x.term(0, 11, 0, 0), NO);
        due("refused ones change nothing", x.draft(0), 4);
        HeapTower two = Bench.of(2, 97);
        due("letter 2 of two", two.term(1, 0, 0, 1), NO);
        due("letter 1 of two", two.term(98, 0, 1, 0), 1);
        HeapTower one = Bench.of(1, 2);
        due("letter 1 of one", one.term(1, 0, 1, 0), NO);
        due("letter 2 of one", one.term(1, 0, 0, 1), NO);
        due("letter 0 of one", one.term(-7, 10, 0, 0), 1);
    }

    // ---- 5

    private static void number() {
        HeapTower x = new HeapTower();
        x.term(4, 0, 10, 0);
        x.term(2, 0, 9, 0);
        due("number", x.number(0, 10, 0), 4);
        due("number of lesser degree", x.number(0, 9, 0), 2);
        due("number that is not there", x.number(1, 9, 0), 0);
        due("degree 11", x.number(1, 10, 0), NO);
        due("below 0", x.number(-1, 0, 0), NO);
        due("below 0", x.number(0, -1, 0), NO);
        due("below 0", x.number(0, 0, -1), NO);
        due("wraps", x.number(MAX, MAX, 2), NO);
        HeapTower one = Bench.of(1, 3);
        due("letter 1 of one", one.number(0, 1, 0), NO);
        due("letter 2 of one", one.number(0, 0, 1), NO);
        due("number of 1", one.number(0, 0, 0), 0);
        // Every product has a number of its own.
        for (int i = 0; i < 1331; i++) {
            x.term(i + 1, i / 121, i / 11 % 11, i % 11);
        }
        for (int i = 0; i < 1331; i++) {
            int[] w = {i / 121, i / 11 % 11, i % 11};
            int old = w[0] != 0 || w[2] != 0 ? 0 : w[1] == 10 ? 4 : w[1] == 9 ? 2 : 0;
            due("number " + i, x.number(w[0], w[1], w[2]), w[0] + w[1] + w[2] > 10 ? NO : (i + 1 + old) % 7);
        }
    }

    // ---- 6

    private static void wipe() {
        HeapTower x = new HeapTower();
        due("wipe of 0", x.wipe(), 0);
        Bench.write(x, 1, 1, 0, 0, 2, 0, 0, 5, 7, 0, 1, 0);
        due("wipe", x.wipe(), 2);
        due("after it", x.draft(0), 0);
        due("number after it", x.number(0, 0, 5), 0);
    }

    // ---- 7

    private static void draft() {
        HeapTower x = new HeapTower();
        due("0: products", x.draft(0), 0);
        due("0: degree", x.draft(1), -1);
        due("0: even", x.draft(2), 1);
        due("0: head", x.draft(3), -1);
        x.term(1, 0, 0, 0);
        due("1: degree", x.draft(1), 0);
        due("1: head", x.draft(3), 0);
        due("1: even", x.draft(2), 1);
        x.term(1, 2, 3, 5);
        due("products", x.draft(0), 2);
        due("degree", x.draft(1), 10);
        due("even", x.draft(2), 0);
        due("head", x.draft(3), 20305);
        x.term(6, 0, 0, 0);
        due("even again", x.draft(2), 1);
        x.term(1, 10, 0, 0);
        due("head of power 10", x.draft(3), 100000);
        due("still even", x.draft(2), 1);
        due("draft(4)", x.draft(4), NO);
        due("draft(-1)", x.draft(-1), NO);
        due("draft(MIN)", x.draft(MIN), NO);
    }

    // ---- 8

    private static void times() {
        HeapTower x = new HeapTower();
        due("0 times", x.times(10, 0, 0), 0);
        due("0 times degree 11", x.times(10, 1, 0), NO);
        Bench.write(x, 2, 0, 0, 0, 3, 1, 2, 3, 4, 0, 6, 0);
        due("times 1", x.times(0, 0, 0), 3);
        Bench.draftIs("times 1", x, 2, 0, 0, 0, 3, 1, 2, 3, 4, 0, 6, 0);
        due("times x y z z", x.times(1, 1, 2), 3);
        Bench.draftIs("times x y z z", x, 2, 1, 1, 2, 3, 2, 3, 5, 4, 1, 7, 2);
        due("degree 11", x.times(1, 0, 0), NO);
        due("below 0", x.times(-1, 0, 0), NO);
        due("below 0", x.times(1, -1, 0), NO);
        due("below 0", x.times(1, 0, -1), NO);
        due("wraps", x.times(MAX, MAX, 2), NO);
        due("wraps", x.times(MAX, 0, 0), NO);
        Bench.draftIs("refused ones change nothing", x, 2, 1, 1, 2, 3, 2, 3, 5, 4, 1, 7, 2);
        due("degree 11 by y", x.times(0, 1, 0), NO);
        due("degree 11 by z", x.times(0, 0, 1), NO);
        due("degree 12 by y and z", x.times(0, 1, 1), NO);
        Bench.write(x, 1, 1, 0, 0, 1, 0, 0, 0);
        due("times x over degrees", x.times(1, 0, 0), 2);
        Bench.draftIs("times x over degrees", x, 1, 2, 0, 0, 1, 1, 0, 0);
        HeapTower two = Bench.of(2, 5);
        two.term(1, 1, 1, 0);
        due("letter 2 of two", two.times(0, 0, 1), NO);
        due("times y y", two.times(0, 2, 0), 1);
        Bench.draftIs("times y y", two, 1, 1, 3, 0);
        HeapTower one = Bench.of(1, 5);
        due("letter 1 of one", one.times(0, 1, 0), NO);
    }

    // ---- 9

    private static void row() {
        HeapTower x = new HeapTower();
        due("row of 0", x.row(), NO);
        Bench.write(x, 1, 0, 0, 0);
        due("row of degree 0", x.row(), NO);
        Bench.write(x, 1, 2, 2, 2);
        due("row of degree 6", x.row(), NO);
        Bench.write(x, 1, 2, 0, 0, 1, 0, 1, 0);
        due("row that is not even", x.row(), NO);
        Bench.draftIs("a refused row", x, 1, 2, 0, 0, 1, 0, 1, 0);
        due("no rows", x.told(3), 0);
        Bench.write(x, 1, 2, 2, 1, 3, 0, 0, 5);
        due("row of degree 5", x.row(), 0);
        due("the draft is 0 then", x.draft(0), 0);
        Bench.write(x, 1, 0, 1, 0);
        due("row of degree 1", x.row(), 1);
        for (int r = 2; r < 6; r++) {
            Bench.write(x, r, r, 0, 0);
            due("row", x.row(), r);
        }
        Bench.write(x, 1, 0, 1, 0);
        due("row 7", x.row(), NO);
        due("its draft stays", x.draft(0), 1);
        due("six rows", x.told(3), 6);
        due("they are in", x.in(), 1);
    }

    // ---- 10

    private static void drop() {
        HeapTower x = new HeapTower();
        due("drop of none", x.drop(), NO);
        Bench.row(x, 1, 1, 0, 0);
        Bench.row(x, 1, 0, 1, 0);
        Bench.write(x, 1, 0, 0, 1);
        due("claim", x.claim(1), 1);
        Bench.write(x, 1, 0, 2, 0);
        due("y y is in", x.in(), 1);
        due("drop", x.drop(), 1);
        due("y y is out", x.in(), 0);
        due("the draft stays", x.draft(0), 1);
        due("count", x.count(1), 2);
        Bench.row(x, 1, 0, 1, 0);
        due("its claim is gone", x.sum(), 0);
        due("drop", x.drop(), 1);
        due("drop", x.drop(), 0);
        due("drop of none", x.drop(), NO);
        due("count of none", x.count(1), 3);
    }

    // ---- 11

    private static void copy() {
        HeapTower x = new HeapTower();
        Bench.row(x, 3, 2, 1, 0, 2, 0, 0, 3);
        Bench.row(x, 5, 0, 0, 1);
        x.term(1, 7, 0, 0);
        due("copy(2)", x.copy(2), NO);
        due("copy(-1)", x.copy(-1), NO);
        due("copy(MIN)", x.copy(MIN), NO);
        due("copy(MAX)", x.copy(MAX), NO);
        Bench.draftIs("a refused copy", x, 1, 7, 0, 0);
        due("copy(0)", x.copy(0), 2);
        Bench.draftIs("copy(0)", x, 3, 2, 1, 0, 2, 0, 0, 3);
        due("copy(1)", x.copy(1), 1);
        Bench.draftIs("copy(1)", x, 5, 0, 0, 1);
        x.wipe();
        due("the row stays", x.copy(1), 1);
        x.drop();
        due("a dropped one", x.copy(1), NO);
        due("a none", new HeapTower().copy(0), NO);
    }

    // ---- 12

    private static void rest() {
        HeapTower x = Bench.of(2, 5);
        Bench.row(x, 2, 2, 0, 0, 1, 0, 2, 0);
        // x x = -1/2 y y = 2 y y, modulo 5.
        Bench.write(x, 1, 3, 0, 0, 3, 0, 1, 0, 1, 0, 3, 0);
        due("rest", x.rest(), 3);
        Bench.draftIs("rest", x, 2, 1, 2, 0, 3, 0, 1, 0, 1, 0, 3, 0);
        due("rest of the rest", x.rest(), 3);
        Bench.write(x, 1, 4, 0, 0, 1, 0, 4, 0);
        due("rest that comes to 0", x.rest(), 0);
        Bench.write(x, 1, 10, 0, 0);
        due("rest of degree 10", x.rest(), 1);
        Bench.draftIs("rest of degree 10", x, 2, 0, 10, 0);
        Bench.write(x, 4, 0, 0, 0);
        due("rest of a number", x.rest(), 1);
        x.wipe();
        due("rest of 0", x.rest(), 0);
        HeapTower cones = Bench.twoCones();
        Bench.write(cones, 1, 0, 2, 1);
        due("rest by what the rows make", cones.rest(), 1);
        Bench.draftIs("rest by what the rows make", cones, 1, 1, 0, 2);
        cones.order(1);
        Bench.write(cones, 1, 1, 0, 2);
        due("rest by order 1", cones.rest(), 1);
        Bench.draftIs("rest by order 1", cones, 1, 0, 2, 1);
        due("rows after it", cones.told(3), 2);
    }

    // ---- 13

    private static void in() {
        HeapTower x = new HeapTower();
        due("0 is in none", x.in(), 1);
        x.term(1, 0, 0, 0);
        due("1 is not", x.in(), 0);
        Bench.row(x, 1, 2, 0, 0);
        Bench.write(x, 1, 2, 0, 0, 1, 3, 1, 0, 5, 2, 4, 4);
        due("parts of three degrees", x.in(), 1);
        due("the draft stays", x.draft(0), 3);
        x.term(1, 1, 0, 0);
        due("one part is out", x.in(), 0);
        HeapTower cones = Bench.twoCones();
        Bench.write(cones, 1, 0, 2, 1, -1, 1, 0, 2);
        due("y y z - x z z", cones.in(), 1);
        Bench.write(cones, 1, 0, 2, 1, 1, 1, 0, 2);
        due("y y z + x z z", cones.in(), 0);
        HeapTower two = Bench.of(2, 2);
        Bench.row(two, 1, 1, 0, 0, 1, 0, 1, 0);
        Bench.write(two, 1, 2, 0, 0, 1, 0, 2, 0);
        due("a square modulo 2", two.in(), 1);
    }

    // ---- 14

    private static void base() {
        HeapTower x = Bench.twoCones();
        due("base(0)", x.base(0), NO);
        due("base(11)", x.base(11), NO);
        due("base(MIN)", x.base(MIN), NO);
        due("base(MAX)", x.base(MAX), NO);
        due("base(1)", x.base(1), 0);
        due("base(2)", x.base(2), 2);
        due("base(3)", x.base(3), 3);
        due("base(10)", x.base(10), 3);
        HeapTower y = new HeapTower();
        Bench.row(y, 1, 3, 0, 0);
        Bench.row(y, 2, 3, 0, 0);
        Bench.row(y, 1, 4, 0, 0, 1, 3, 1, 0);
        due("rows that are not needed", y.base(10), 1);
        Bench.row(y, 1, 1, 0, 0);
        due("a row that divides", y.base(10), 1);
        Bench.row(y, 1, 0, 0, 5);
        due("one of degree 5", y.base(4), 1);
        due("one of degree 5", y.base(5), 2);
        due("the draft stays", y.draft(0), 0);
    }

    // ---- 15

    private static void element() {
        HeapTower x = Bench.twoCones();
        x.term(1, 0, 0, 0);
        due("element(3)", x.element(3), NO);
        due("element(-1)", x.element(-1), NO);
        due("element(MIN)", x.element(MIN), NO);
        due("element(MAX)", x.element(MAX), NO);
        Bench.draftIs("a refused element", x, 1, 0, 0, 0);
        due("element(0)", x.element(0), 2);
        Bench.draftIs("x y before x x", x, 1, 1, 1, 0, 6, 0, 0, 2);
        due("element(1)", x.element(1), 2);
        Bench.draftIs("x x", x, 1, 2, 0, 0, 6, 0, 1, 1);
        due("element(2)", x.element(2), 2);
        Bench.draftIs("y y z", x, 1, 0, 2, 1, 6, 1, 0, 2);
        // By order 1: x y - z z, x x - y z, x z z - y y z, y y y z - z z z z.
        x.order(1);
        due("element(3) of order 1", x.element(3), 2);
        Bench.draftIs("y y y z", x, 1, 0, 3, 1, 6, 0, 0, 4);
        due("element(2) of order 1", x.element(2), 2);
        Bench.draftIs("x z z", x, 1, 1, 0, 2, 6, 0, 2, 1);
        due("element(4) of order 1", x.element(4), NO);
        HeapTower y = Bench.of(2, 7);
        Bench.row(y, 3, 2, 0, 0, 1, 1, 1, 0, 1, 0, 2, 0);
        Bench.row(y, 2, 1, 1, 0, 4, 0, 2, 0);
        due("elements", y.base(10), 3);
        due("element(0)", y.element(0), 2);
        Bench.draftIs("x y + 2 y y", y, 1, 1, 1, 0, 2, 0, 2, 0);
        due("element(1)", y.element(1), 2);
        // 3 x x = -x y - y y = 2 y y - y y = y y; x x - 1/3 y y = x x + 2 y y.
        Bench.draftIs("x x less its rest", y, 1, 2, 0, 0, 2, 0, 2, 0);
        due("element(2)", y.element(2), 1);
        Bench.draftIs("y y y", y, 1, 0, 3, 0);
        due("an element of none", new HeapTower().element(0), NO);
    }

    // ---- 16

    private static void count() {
        HeapTower x = Bench.twoCones();
        int[] cones = {1, 3, 4, 4, 4, 4, 4, 4, 4, 4, 4};
        for (int d = 0; d <= 10; d++) {
            due("count(" + d + ")", x.count(d), cones[d]);
            due("count(" + d + ") of none", new HeapTower().count(d), (d + 1) * (d + 2) / 2);
            due("count(" + d + ") of two letters", Bench.of(2, 3).count(d), d + 1);
            due("count(" + d + ") of one letter", Bench.of(1, 3).count(d), 1);
        }
        due("count(-1)", x.count(-1), NO);
        due("count(11)", x.count(11), NO);
        due("count(MIN)", x.count(MIN), NO);
        due("count(MAX)", x.count(MAX), NO);
        HeapTower y = new HeapTower();
        for (int l = 0; l < 3; l++) {
            Bench.row(y, 1, l == 0 ? 5 : 0, l == 1 ? 4 : 0, l == 2 ? 3 : 0);
        }
        int[] box = {1, 3, 6, 9, 11, 11, 9, 6, 3, 1, 0};
        for (int d = 0; d <= 10; d++) {
            due("count(" + d + ") of a box", y.count(d), box[d]);
        }
        y.drop();
        due("count after drop", y.count(10), 20);
    }

    // ---- 17

    /** The whole table: what is not named, in threes of floor, degree and number, is 0. */
    private static void tower(String what, HeapTower x, int... floorDegreeMany) {
        for (int i = 0; i <= 3; i++) {
            for (int j = 0; j <= 10; j++) {
                int want = i == 0 && j == 0 ? 1 : 0;
                for (int k = 0; k < floorDegreeMany.length; k += 3) {
                    want = floorDegreeMany[k] == i && floorDegreeMany[k + 1] == j ? floorDegreeMany[k + 2] : want;
                }
                due(what + ": free(" + i + ", " + j + ")", x.free(i, j), want);
            }
        }
    }

    private static void free() {
        tower("no rows", new HeapTower());
        tower("two cones", Bench.twoCones(), 1, 2, 2, 2, 4, 1);
        HeapTower x = new HeapTower();
        Bench.row(x, 1, 1, 0, 0);
        Bench.row(x, 1, 0, 1, 0);
        Bench.row(x, 1, 0, 0, 1);
        tower("all letters", x, 1, 1, 3, 2, 2, 3, 3, 3, 1);
        x.letters(3, 2);
        Bench.row(x, 1, 2, 0, 0);
        Bench.row(x, 1, 0, 3, 0);
        Bench.row(x, 1, 0, 0, 5);
        tower("powers", x, 1, 2, 1, 1, 3, 1, 1, 5, 1, 2, 5, 1, 2, 7, 1, 2, 8, 1, 3, 10, 1);
        x.letters(3, 97);
        for (int i = 0; i < 6; i++) {
            int[] w = {0, 0, 0};
            w[i % 3]++;
            w[i < 3 ? i % 3 : (i + 1) % 3]++;
            Bench.row(x, i + 1, w[0], w[1], w[2]);
        }
        tower("all of degree 2", x, 1, 2, 6, 2, 3, 8, 3, 4, 3);
        x.letters(3, 5);
        Bench.row(x, 1, 2, 0, 0);
        Bench.row(x, 3, 2, 0, 0);
        Bench.row(x, 1, 2, 1, 0, 1, 3, 0, 0);
        tower("rows that are not needed", x, 1, 2, 1);
        HeapTower two = Bench.of(2, 5);
        tower("two letters, no rows", two);
        Bench.row(two, 1, 2, 0, 0);
        Bench.row(two, 1, 1, 1, 0);
        tower("two letters", two, 1, 2, 2, 2, 3, 1);
        HeapTower one = Bench.of(1, 5);
        Bench.row(one, 1, 5, 0, 0);
        Bench.row(one, 1, 4, 0, 0);
        tower("one letter", one, 1, 4, 1);
        int[] wrong = {-1, MIN, MAX};
        for (int w : wrong) {
            due("free(" + w + ", 0)", x.free(w, 0), NO);
            due("free(0, " + w + ")", x.free(0, w), NO);
        }
        due("free(4, 0)", one.free(4, 0), NO);
        due("free(0, 11)", one.free(0, 11), NO);
        due("free(3, 11)", one.free(3, 11), NO);
    }

    // ---- 18

    private static void quotient() {
        HeapTower x = Bench.of(2, 5);
        Bench.row(x, 1, 2, 0, 0);
        Bench.row(x, 1, 1, 1, 0);
        due("of 0", x.quotient(0), NO);
        Bench.write(x, 1, 1, 0, 0, 1, 0, 0, 0);
        due("not even", x.quotient(0), NO);
        Bench.write(x, 1, 0, 1, 0);
        due("d below 0", x.quotient(-1), NO);
        due("d least", x.quotient(MIN), NO);
        due("d greatest", x.quotient(MAX), NO);
        due("d 10", x.quotient(10), NO);
        for (int d = 0; d <= 9; d++) {
            due("by y: " + d, x.quotient(d), d);
        }
        Bench.write(x, 1, 2, 0, 0);
        for (int d = 0; d <= 8; d++) {
            due("by one in the heap: " + d, x.quotient(d), d + 1);
        }
        Bench.write(x, 3, 0, 0, 0);
        int[] own = {0, 0, 2, 3, 4, 5, 6, 7, 8, 9, 10};
        for (int d = 0; d <= 10; d++) {
            due("by a number: " + d, x.quotient(d), own[d]);
        }
        Bench.write(x, 1, 1, 0, 0);
        due("by x: 0", x.quotient(0), 0);
        due("by x: 1", x.quotient(1), 2);
        due("the draft stays", x.draft(3), 10000);
        Bench.row(x, 1, 0, 3, 0);
        Bench.write(x, 1, 0, 1, 0);
        due("after a row more: 2", x.quotient(2), 3);
        x.drop();
        due("after it is dropped: 2", x.quotient(2), 2);
        x.times(0, 1, 0);
        due("after times: 8", x.quotient(8), 8);
        due("after times: 9", x.quotient(9), NO);
        quotientAfterChanges();
        HeapTower none = new HeapTower();
        Bench.write(none, 1, 10, 0, 0);
        due("of no rows", none.quotient(0), 0);
        due("of no rows", none.quotient(1), NO);
    }

    /** By x x x, y y: x goes to 0 by x x, y by y, x by y not. */
    private static void quotientAfterChanges() {
        HeapTower x = Bench.of(2, 5);
        Bench.row(x, 1, 3, 0, 0);
        Bench.row(x, 1, 0, 2, 0);
        Bench.write(x, 1, 2, 0, 0);
        due("by x x: 1", x.quotient(1), 1);
        x.wipe();
        x.term(1, 0, 1, 0);
        due("by y, written: 1", x.quotient(1), 1);
        x.term(1, 1, 0, 0);
        due("by x + y, one more term: 1", x.quotient(1), 0);
        x.copy(1);
        due("by y y, copied: 0", x.quotient(0), 1);
        Bench.write(x, 1, 1, 0, 0, 1, 0, 0, 0);
        due("not even", x.quotient(0), NO);
        Bench.write(x, 1, 1, 0, 0);
        due("by x: 0", x.quotient(0), 0);
        x.element(1);
        due("by x x x, an element: 0", x.quotient(0), 1);
        Bench.write(x, 1, 1, 1, 0);
        due("by x y: 0", x.quotient(0), 0);
        x.times(1, 0, 0);
        due("by x x y: 1", x.quotient(1), 2);
        Bench.write(x, 1, 2, 1, 0, 1, 0, 3, 0);
        due("by x x y + y y y: 0", x.quotient(0), 0);
        x.rest();
        due("by its rest: 0", x.quotient(0), 0);
        Bench.write(x, 1, 0, 0, 0);
        x.claim(0);
        Bench.write(x, 1, 0, 1, 0);
        due("by y: 0", x.quotient(0), 0);
        x.sum();
        due("by a sum: 0", x.quotient(0), 1);
        Bench.write(x, 1, 2, 0, 0);
        due("by x x: 0", x.quotient(0), 0);
        x.drop();
        x.keep();
        x.drop();
        due("by x x, of no rows: 1", x.quotient(1), 0);
        x.swap();
        due("by x x, of x x x: 1", x.quotient(1), 1);
    }

    // ---- 19

    private static void regular() {
        HeapTower x = new HeapTower();
        due("0", x.regular(), NO);
        Bench.write(x, 1, 1, 0, 0, 1, 0, 0, 0);
        due("not even", x.regular(), NO);
        Bench.write(x, 1, 1, 0, 0);
        due("x by no rows", x.regular(), 1);
        Bench.row(x, 1, 2, 0, 0);
        Bench.write(x, 1, 1, 0, 0);
        due("x by x x", x.regular(), 0);
        Bench.write(x, 1, 0, 1, 0);
        due("y by x x", x.regular(), 1);
        Bench.write(x, 1, 2, 0, 0);
        due("x x by x x", x.regular(), 0);
        Bench.write(x, 1, 0, 0, 0);
        due("1 by x x", x.regular(), 1);
        // x times it is in the heap, but that is beyond degree 10.
        Bench.write(x, 1, 1, 9, 0);
        due("of degree 10", x.regular(), 1);
        Bench.write(x, 1, 1, 8, 0);
        due("of degree 9", x.regular(), 0);
        Bench.row(x, 1, 1, 1, 0);
        Bench.row(x, 1, 1, 0, 1);
        Bench.write(x, 1, 0, 1, 0);
        due("only x goes to 0", x.regular(), 0);
        due("the draft stays", x.draft(3), 100);
        HeapTower two = Bench.of(2, 5);
        Bench.row(two, 1, 0, 5, 0);
        Bench.write(two, 1, 5, 0, 0);
        due("x^5 by y^5", two.regular(), 1);
        Bench.write(two, 1, 5, 0, 0, 4, 0, 5, 0);
        due("x^5 - y^5 by y^5", two.regular(), 1);
        Bench.write(two, 1, 3, 2, 0);
        due("x^3 y^2 by y^5", two.regular(), 0);
        Bench.write(two, 1, 5, 1, 0);
        due("x^5 y by y^5", two.regular(), 0);
        two.times(1, 0, 0);
        due("x^6 y by y^5: y^4 comes to degree 11", two.regular(), 1);
    }

    // ---- 20

    private static void keep() {
        HeapTower x = new HeapTower();
        Bench.row(x, 1, 1, 0, 0);
        Bench.row(x, 1, 0, 2, 0);
        Bench.write(x, 1, 0, 0, 1);
        x.claim(0);
        x.term(2, 0, 0, 0);
        due("keep", x.keep(), 0);
        due("rows", x.told(3), 2);
        due("other rows", x.told(4), 2);
        Bench.draftIs("the draft stays", x, 2, 0, 0, 0);
        due("same", x.parts(), -1);
        due("claims stay", x.sum(), 1);
        x.drop();
        due("the other one stays", x.dimension(1, 2), 4);
        due("not the same", x.parts(), 2);
        Bench.row(x, 1, 0, 0, 3);
        due("not the rows of the heap", x.dimension(1, 3), 8);
        due("keep again", x.keep(), 2);
        due("the latest one", x.dimension(1, 3), 7);
        x.drop();
        x.drop();
        due("keep of none", x.keep(), 2);
        due("the other one has none", x.told(4), 0);
        due("none is in it", x.dimension(1, 10), 0);
    }

    // ---- 21

    private static void swap() {
        HeapTower x = new HeapTower();
        due("swap of none", x.swap(), 0);
        Bench.row(x, 1, 1, 0, 0);
        Bench.write(x, 1, 0, 0, 0);
        x.claim(0);
        x.keep();
        Bench.row(x, 1, 0, 1, 0);
        Bench.write(x, 1, 0, 0, 0);
        x.claim(1);
        Bench.write(x, 5, 0, 0, 0);
        due("swap", x.swap(), 1);
        Bench.draftIs("the draft stays", x, 5, 0, 0, 0);
        due("rows", x.told(3), 1);
        due("other rows", x.told(4), 2);
        due("claims are 0", x.sum(), 0);
        due("count", x.count(1), 2);
        due("the other one", x.dimension(1, 1), 2);
        Bench.write(x, 1, 0, 1, 0);
        due("y is out", x.in(), 0);
        due("quotient", x.quotient(0), 0);
        due("swap back", x.swap(), 2);
        due("y is in", x.in(), 1);
        due("quotient", x.quotient(0), 1);
        due("claims are 0 again", x.sum(), 0);
        x.drop();
        due("rows are apart", x.told(4), 1);
    }

    // ---- 22

    private static void dimensions(String what, HeapTower x, int d, int... five) {
        for (int which = 0; which < 5; which++) {
            due(what + ": dimension(" + which + ", " + d + ")", x.dimension(which, d), five[which]);
        }
    }

    private static void dimension() {
        HeapTower x = Bench.of(2, 7);
        dimensions("none", x, 0, 0, 0, 0, 0, 0);
        dimensions("none", x, 10, 0, 0, 0, 0, 0);
        Bench.row(x, 1, 0, 1, 0);
        x.keep();
        x.drop();
        Bench.row(x, 1, 1, 0, 0);
        dimensions("x and y", x, 0, 0, 0, 0, 0, 0);
        dimensions("x and y", x, 1, 1, 1, 2, 0, 0);
        dimensions("x and y", x, 2, 2, 2, 3, 1, 1);
        dimensions("x and y", x, 10, 10, 10, 11, 9, 9);
        Bench.row(x, 1, 0, 1, 0);
        dimensions("x, y and y", x, 1, 2, 1, 2, 1, 0);
        dimensions("x, y and y", x, 2, 3, 2, 3, 2, 2);
        due("keep", x.keep(), 1);
        dimensions("x, y twice", x, 1, 2, 2, 2, 2, 0);
        dimensions("x, y twice", x, 2, 3, 3, 3, 3, 3);
        x.drop();
        dimensions("x and x, y", x, 2, 2, 3, 3, 2, 2);
        x.swap();
        dimensions("x, y and x", x, 2, 3, 2, 3, 2, 2);
        due("which 5", x.dimension(5, 0), NO);
        due("which -1", x.dimension(-1, 0), NO);
        due("which MIN", x.dimension(MIN, 0), NO);
        due("which MAX", x.dimension(MAX, 0), NO);
        for (int which = 0; which < 5; which++) {
            due("d -1", x.dimension(which, -1), NO);
            due("d 11", x.dimension(which, 11), NO);
            due("d MIN", x.dimension(which, MIN), NO);
            due("d MAX", x.dimension(which, MAX), NO);
        }
        HeapTower y = new HeapTower();
        Bench.row(y, 1, 5, 0, 0, 1, 0, 5, 0);
        y.keep();
        dimensions("of degree 5 twice", y, 5, 1, 1, 1, 1, 0);
        dimensions("of degree 5 twice", y, 10, 21, 21, 21, 21, 1);
        Bench.row(y, 1, 0, 0, 5);
        dimensions("of degree 5, two and one", y, 10, 41, 21, 41, 21, 2);
        y.order(1);
        dimensions("by order 1", y, 10, 41, 21, 41, 21, 2);
        y.letters(3, 7);
        dimensions("letters told anew", y, 10, 0, 0, 0, 0, 0);
        Bench.row(y, 1, 1, 0, 0);
        y.keep();
        dimensions("a heap twice", y, 2, 3, 3, 3, 3, 1);
        y.drop();
        dimensions("none and one", y, 2, 0, 3, 3, 0, 0);
        due("keep of none", y.keep(), 1);
        dimensions("none twice", y, 2, 0, 0, 0, 0, 0);
    }

    // ---- 23

    private static void parts() {
        HeapTower x = new HeapTower();
        due("none", x.parts(), -1);
        Bench.row(x, 1, 5, 0, 0);
        due("one of degree 5", x.parts(), 5);
        x.swap();
        x.keep();
        due("none again", x.parts(), -1);
        Bench.row(x, 1, 1, 0, 0, 1, 0, 1, 0);
        Bench.row(x, 1, 0, 1, 0);
        x.keep();
        x.drop();
        x.drop();
        Bench.row(x, 1, 0, 1, 0);
        due("y and x, y", x.parts(), 1);
        Bench.row(x, 3, 1, 0, 0);
        due("the same by other rows", x.parts(), -1);
        Bench.row(x, 1, 2, 0, 0);
        due("the same with more rows", x.parts(), -1);
        Bench.row(x, 1, 0, 0, 4);
        due("z^4 more", x.parts(), 4);
        Bench.row(x, 1, 0, 0, 3);
        due("z^3 more", x.parts(), 3);
        x.swap();
        due("from the other side", x.parts(), 3);
        Bench.row(x, 1, 0, 0, 2);
        due("z^2 more on this side", x.parts(), 2);
    }

    // ---- 24

    private static void claim() {
        HeapTower x = new HeapTower();
        due("no row", x.claim(0), NO);
        Bench.row(x, 1, 5, 0, 0);
        Bench.row(x, 1, 0, 1, 0);
        Bench.write(x, 1, 0, 0, 6);
        due("degree 11", x.claim(0), NO);
        due("row 2", x.claim(2), NO);
        due("row -1", x.claim(-1), NO);
        due("row MIN", x.claim(MIN), NO);
        due("row MAX", x.claim(MAX), NO);
        Bench.draftIs("a refused claim", x, 1, 0, 0, 6);
        due("degree 7", x.claim(1), 1);
        due("the draft is 0 then", x.draft(0), 0);
        Bench.write(x, 2, 0, 0, 5, 1, 0, 0, 0);
        due("not even, degree 10", x.claim(0), 1);
        due("sum", x.sum(), 3);
        Bench.draftIs("sum", x, 2, 5, 0, 5, 1, 5, 0, 0, 1, 0, 1, 6);
        x.wipe();
        due("a claim of 0", x.claim(0), 1);
        due("sum", x.sum(), 1);
        Bench.write(x, 1, 0, 9, 0);
        due("another claim", x.claim(1), 1);
        due("sum", x.sum(), 1);
        Bench.draftIs("the latest claim", x, 1, 0, 10, 0);
        due("a draft of degree 10", x.claim(1), NO);
    }

    // ---- 25

    private static void sum() {
        HeapTower x = new HeapTower();
        x.term(1, 1, 0, 0);
        due("of no rows", x.sum(), 0);
        due("the draft is 0", x.draft(0), 0);
        Bench.row(x, 1, 1, 0, 0, 2, 0, 1, 0);
        Bench.row(x, 3, 0, 0, 2);
        due("of no claims", x.sum(), 0);
        Bench.write(x, 1, 1, 0, 0, 5, 0, 1, 0);
        x.claim(0);
        // (x + 2 y)(x - 2 y) = x x - 4 y y, modulo 7.
        due("of one claim", x.sum(), 2);
        Bench.draftIs("of one claim", x, 1, 2, 0, 0, 3, 0, 2, 0);
        Bench.write(x, 2, 0, 0, 0, 1, 1, 0, 0);
        x.claim(1);
        due("of two claims", x.sum(), 4);
        Bench.draftIs("of two claims", x, 1, 2, 0, 0, 3, 0, 2, 0, 6, 0, 0, 2, 3, 1, 0, 2);
        due("claims stay", x.sum(), 4);
        due("it is in", x.in(), 1);
        HeapTower y = new HeapTower();
        Bench.row(y, 1, 1, 0, 0);
        Bench.row(y, 1, 0, 1, 0);
        Bench.write(y, 1, 0, 1, 0);
        y.claim(0);
        Bench.write(y, 6, 1, 0, 0);
        y.claim(1);
        due("a sum that comes to nought", y.sum(), 0);
    }

    // ---- 26

    private static void told() {
        HeapTower x = Bench.of(2, 13);
        x.order(1);
        Bench.row(x, 1, 1, 0, 0);
        Bench.row(x, 1, 1, 0, 0);
        x.keep();
        Bench.row(x, 1, 1, 0, 0);
        int[] want = {2, 13, 1, 3, 2};
        for (int what = 0; what < 5; what++) {
            due("told(" + what + ")", x.told(what), want[what]);
        }
        due("told(5)", x.told(5), NO);
        due("told(-1)", x.told(-1), NO);
        due("told(MIN)", x.told(MIN), NO);
        due("told(MAX)", x.told(MAX), NO);
    }
}
