import java.util.Arrays;

/** The boundary cases of the terms and of promises 1 to 8: a test for each sentence, with breaks of it. */
public final class DraftBoundariesTest {
    private static final int NO = Bench.NO;
    private static final int MIN = Bench.MIN;
    private static final int MAX = Bench.MAX;

    private DraftBoundariesTest() {
    }

    public static void main(String[] args) {
        Bench.runAll(DraftBoundariesTest.class);
    }

    private static void due(String call, int got, int want) {
        Bench.due(call, got, want);
    }

    // ---- ahead of promise 1

    @Says(promise = 0, value = "An object is used for at most 512 calls after it has been made")
    @Break(at = "public int told(", from = "public int told(int what) {",
            to = "private int calls; public int told(int what) { calls++; if (calls > 511) { return NO; }")
    static void t0the512thCallAnswers() {
        HeapTower x = new HeapTower();
        for (int i = 1; i < 512; i++) {
            due("call " + i, x.told(1), 7);
        }
        due("call 512", x.told(1), 7);
        HeapTower y = new HeapTower();
        for (int i = 1; i < 510; i++) {
            due("term " + i, y.term(1, 1, 1, 0), i % 7);
        }
        due("call 510", y.row(), 0);
        due("call 511", y.count(10), 21);
        due("call 512", y.free(1, 2), 1);
    }

    @Says(promise = 0, value = "NO is what a refused call answers; it changes nothing.")
    @Break(at = "public static final int NO", from = "-1000000", to = "-1000001")
    @Break(at = "public int letters(", from = "if (n < 1", to = "theDraft.clear(); if (n < 1")
    @Break(at = "public int order(", from = "return NO;", to = "products.arrange(3, 0); return NO;")
    @Break(at = "public int element(", from = "return NO;", to = "theDraft.clear(); return NO;")
    @Break(at = "public int claim(", from = "return NO;", to = "theDraft.clear(); return NO;")
    static void t0refusedCallsChangeNothing() {
        due("NO", HeapTower.NO, NO);
        Bench.refused("letters(0, 7)", x -> x.letters(0, 7));
        Bench.refused("letters(2, 4)", x -> x.letters(2, 4));
        Bench.refused("order(2)", x -> x.order(2));
        Bench.refused("term(1, 9, 1, 1)", x -> x.term(1, 9, 1, 1));
        Bench.refused("number(9, 1, 1)", x -> x.number(9, 1, 1));
        Bench.refused("draft(4)", x -> x.draft(4));
        Bench.refused("times(9, 0, 0)", x -> x.times(9, 0, 0));
        Bench.refused("row of 0", () -> Bench.busyWith(), HeapTower::row);
        Bench.refused("copy(3)", x -> x.copy(3));
        Bench.refused("base(11)", x -> x.base(11));
        Bench.refused("element(99)", x -> x.element(99));
        Bench.refused("count(11)", x -> x.count(11));
        Bench.refused("free(4, 0)", x -> x.free(4, 0));
        Bench.refused("quotient(9)", x -> x.quotient(9));
        Bench.refused("regular of 0", () -> Bench.busyWith(), HeapTower::regular);
        Bench.refused("dimension(5, 0)", x -> x.dimension(5, 0));
        Bench.refused("claim(3)", x -> x.claim(3));
        Bench.refused("told(5)", x -> x.told(5));
    }

    @Says(promise = 0, value = "told as 0 to P - 1")
    @Break(at = "int modulo(", from = "Math.floorMod(c, prime)", to = "c % prime")
    @Break(at = "int modulo(", from = "Math.floorMod(c, prime)", to = "Math.floorMod(c - 1, prime) + 1")
    static void t1numbersAreFrom0ToPLess1() {
        for (int p : Bench.PRIMES) {
            HeapTower x = Bench.of(1, p);
            for (int c = -2 * p; c <= 2 * p; c++) {
                x.wipe();
                due(c + " modulo " + p, x.term(c, 1, 0, 0), (c + 2 * p) % p);
                due(c + " modulo " + p + ", as it is held", x.number(1, 0, 0), (c + 2 * p) % p);
            }
        }
    }

    @Says(promise = 0, value = "0 is EVEN, of any DEGREE")
    @Break(at = "boolean isEven(", from = "return d < 0 || sizeOf", to = "return d >= 0 && sizeOf")
    static void t1nought() {
        HeapTower x = new HeapTower();
        due("0 is even", x.draft(2), 1);
        Bench.write(x, 3, 0, 0, 4, 4, 0, 0, 4);
        due("what has come to 0 is even", x.draft(2), 1);
        Bench.row(x, 1, 5, 0, 0);
        x.wipe();
        due("0 times one of degree 10", x.times(10, 0, 0), 0);
        due("as a claim of any row", x.claim(0), 1);
    }

    @Says(promise = 0, value = "Of two PRODUCTS that with the greater DEGREE is GREATER")
    @Break(at = "int degree() {", from = "int d = TOP;", to = "int d = TOP - 1;")
    @Break(at = "private int headOfDraft(", from = "theDraft.headPlace()", to = "0")
    static void t1theGreaterDegreeIsGreater() {
        for (int order = 0; order <= 1; order++) {
            HeapTower x = new HeapTower();
            x.order(order);
            Bench.write(x, 1, 9, 0, 0, 1, 0, 0, 10);
            due("z^10 before x^9", x.draft(3), 10);
            Bench.write(x, 1, 0, 0, 0, 1, 0, 0, 1);
            due("z before 1", x.draft(3), 1);
        }
    }

    @Says(promise = 0, value = "of one DEGREE, by ORDER 0 (at first) that with the lesser power of the last letter"
            + " of which their powers differ, by ORDER 1 that with the greater power of the first letter"
            + " of which they differ")
    @Break(at = "private int lineByLast(", from = "place(y, z)", to = "place(d - z - y, z)")
    @Break(at = "private int lineByLast(", from = "letterCount > 1", to = "letterCount > 2")
    @Break(at = "private int lineByFirst(", from = "place(s - z, z)", to = "place(z, s - z)")
    @Break(at = "private int lineByFirst(", from = "letterCount > 1", to = "letterCount > 2")
    static void t1everyTwoProductsOfOneDegree() {
        int[] degrees = {1, 2, 3, 10};
        for (int n = 1; n <= 3; n++) {
            for (int d : degrees) {
                everyTwo(n, 0, d);
                everyTwo(n, 1, d);
            }
        }
    }

    private static void everyTwo(int n, int order, int d) {
        HeapTower x = Bench.of(n, 7);
        x.order(order);
        for (int a = 0; a < 1331; a++) {
            int[] u = {a / 121, a / 11 % 11, a % 11};
            for (int b = 0; b < a && isOfDegree(u, n, d); b++) {
                int[] v = {b / 121, b / 11 % 11, b % 11};
                if (isOfDegree(v, n, d)) {
                    Bench.write(x, 1, u[0], u[1], u[2], 1, v[0], v[1], v[2]);
                    int[] head = isGreater(u, v, order) ? u : v;
                    due("the head by order " + order, x.draft(3), 10000 * head[0] + 100 * head[1] + head[2]);
                }
            }
        }
    }

    private static boolean isOfDegree(int[] w, int n, int d) {
        return w[0] + w[1] + w[2] == d && (n > 1 || w[1] == 0) && (n > 2 || w[2] == 0);
    }

    private static boolean isGreater(int[] u, int[] v, int order) {
        if (order == 0) {
            int last = u[2] != v[2] ? 2 : u[1] != v[1] ? 1 : 0;
            return u[last] < v[last];
        }
        int first = u[0] != v[0] ? 0 : u[1] != v[1] ? 1 : 2;
        return u[first] > v[first];
    }

    @Says(promise = 0, value = "in order: the lesser DEGREE first, of one DEGREE the lesser PRODUCT first")
    @Break(at = "void close(", from = "int i = products.amount(d) - 1; i >= 0; i--",
            to = "int i = 0; i < products.amount(d); i++")
    static void t2theLesserProductFirst() {
        int[][] heads = {{2, 101, 10001, 200, 10100, 20000}, {2, 101, 200, 10001, 10100, 20000}};
        for (int order = 0; order <= 1; order++) {
            HeapTower x = Bench.sixRows();
            x.order(order);
            for (int k = 0; k < 6; k++) {
                due("element(" + k + ")", x.element(k), 1);
                due("its head by order " + order, x.draft(3), heads[order][k]);
            }
        }
        HeapTower y = new HeapTower();
        Bench.row(y, 1, 3, 0, 0);
        Bench.row(y, 1, 0, 0, 1);
        due("the first element", y.element(0), 1);
        due("z before x^3", y.draft(3), 1);
    }

    @Says(promise = 0, value = "(no ROWS at first: 0 alone is in it)")
    @Break(at = "Heap(Base base", from = "this.base = base;",
            to = "this.base = base; size = 1; degrees[0] = 1; rows[0][0] = 1;")
    static void t4theOtherHeapHasNoRowsAtFirst() {
        HeapTower x = new HeapTower();
        due("rows of the other", x.told(4), 0);
        for (int d = 0; d <= 10; d++) {
            due("in the other of degree " + d, x.dimension(1, d), 0);
        }
        Bench.row(x, 1, 1, 0, 0);
        due("in both", x.dimension(3, 10), 0);
        due("swap", x.swap(), 0);
        due("0 is in it", x.in(), 1);
        x.term(1, 10, 0, 0);
        due("x^10 is not", x.in(), 0);
    }

    @Says(promise = 0, value = "CLAIMS are POLYNOMIALS, one for each ROW, 0 at first.")
    @Break(at = "claims[r] = new", from = "claims[r] = new Polynomial(products);",
            to = "claims[r] = new Polynomial(products); claims[r].setNumber(0, 0, 1);")
    @Break(at = "public int claim(", from = "claims[row].become(theDraft);",
            to = "claims[0].become(theDraft);")
    static void t5claimsAre0AtFirst() {
        HeapTower x = Bench.sixRows();
        due("no claims", x.sum(), 0);
        for (int r = 0; r < 6; r++) {
            Bench.claim(x, r, 1, 0, 0, 0);
        }
        due("a claim for each of six rows", x.sum(), 6);
    }

    // ---- 1

    @Says(promise = 1, value = "3 LETTERS")
    @Break(at = "Products() {", from = "arrange(LETTERS_AT_MOST, 0)", to = "arrange(2, 0)")
    static void p01threeLetters() {
        HeapTower x = new HeapTower();
        due("letters", x.told(0), 3);
        due("letter 2 is there", x.term(1, 0, 0, 10), 1);
        due("products of degree 10", x.count(10), 66);
    }

    @Says(promise = 1, value = "P 7")
    @Break(at = "Numbers() {", from = "setPrime(7)", to = "setPrime(5)")
    static void p01primeSeven() {
        HeapTower x = new HeapTower();
        due("P", x.told(1), 7);
        due("-1", x.term(-1, 0, 0, 0), 6);
    }

    @Says(promise = 1, value = "ORDER 0")
    @Break(at = "Products() {", from = "arrange(LETTERS_AT_MOST, 0)", to = "arrange(LETTERS_AT_MOST, 1)")
    static void p01orderNought() {
        HeapTower x = new HeapTower();
        due("order", x.told(2), 0);
        Bench.write(x, 1, 1, 0, 1, 1, 0, 2, 0);
        due("y y is the head", x.draft(3), 200);
        due("what it was", x.order(0), 0);
    }

    @Says(promise = 1, value = "no ROWS")
    @Break(at = "Heap(Base base", from = "this.base = base;",
            to = "this.base = base; size = 1; degrees[0] = 1; rows[0][0] = 1;")
    static void p01noRows() {
        HeapTower x = new HeapTower();
        due("rows", x.told(3), 0);
        due("no row to copy", x.copy(0), NO);
        due("no row to drop", x.drop(), NO);
        due("no row to claim for", x.claim(0), NO);
        due("no base", x.base(10), 0);
        due("the first row is number 0", x.term(1, 1, 0, 0) + x.row(), 1);
    }

    @Says(promise = 1, value = "THE DRAFT is 0.")
    @Break(at = "theDraft = new", from = "theDraft = new Polynomial(products);",
            to = "theDraft = new Polynomial(products); theDraft.setNumber(0, 0, 1);")
    static void p01theDraftIsNought() {
        HeapTower x = new HeapTower();
        due("products", x.draft(0), 0);
        due("degree", x.draft(1), -1);
        due("number of 1", x.number(0, 0, 0), 0);
        due("wipe", x.wipe(), 0);
    }

    // ---- 2

    @Says(promise = 2, value = "LETTERS and P are told anew: 1.")
    @Break(at = "public int letters(", from = "numbers.setPrime(p);", to = "")
    @Break(at = "public int letters(", from = "products.arrange(n,", to = "products.arrange(3,")
    @Break(at = "public int letters(", from = "return 1;", to = "return n;")
    @Break(at = "public int letters(", from = "products.orderNow()", to = "0")
    static void p02toldAnew() {
        HeapTower x = Bench.busy();
        for (int n = 1; n <= 3; n++) {
            due("letters", x.letters(n, 97), 1);
            due("how many letters", x.told(0), n);
            due("P", x.told(1), 97);
            due("the order is not told anew", x.told(2), 1);
            due("letter 1", x.number(0, 1, 0), n > 1 ? 0 : NO);
            due("letter 2", x.number(0, 0, 1), n > 2 ? 0 : NO);
        }
    }

    @Says(promise = 2, value = "All ROWS, the OTHER HEAP, CLAIMS and THE DRAFT are as at first.")
    @Break(at = "public int letters(", from = "theHeap.empty();", to = "theHeap.forgetBase();")
    @Break(at = "public int letters(", from = "theOther.empty();", to = "theOther.forgetBase();")
    @Break(at = "public int letters(", from = "clearClaims();", to = "")
    @Break(at = "public int letters(", from = "theDraft.clear();", to = "")
    @Break(at = "public int letters(", from = "forgetAllBases();", to = "")
    static void p02allIsAsAtFirst() {
        HeapTower x = Bench.busy();
        Bench.claim(x, 0, 3, 0, 0, 0);
        x.term(1, 1, 0, 0);
        due("a sum of both heaps", x.dimension(2, 10), 66);
        due("a product of both heaps", x.dimension(4, 10), 64);
        due("letters told again as they were", x.letters(3, 11), 1);
        due("rows", x.told(3), 0);
        due("rows of the other", x.told(4), 0);
        due("the draft", x.draft(0), 0);
        due("the sum of both heaps", x.dimension(2, 10), 0);
        due("the product of both heaps", x.dimension(4, 10), 0);
        Bench.row(x, 1, 1, 0, 0);
        Bench.row(x, 1, 1, 0, 0);
        Bench.row(x, 1, 1, 0, 0);
        due("claims", x.sum(), 0);
    }

    @Says(promise = 2, value = "NO: n is not 1..3")
    @Break(at = "public int letters(", from = "n < 1", to = "n < 0")
    @Break(at = "public int letters(", from = "n < 1", to = "n < 2")
    @Break(at = "public int letters(", from = "n > LETTERS_AT_MOST", to = "n > 4")
    @Break(at = "public int letters(", from = "n > LETTERS_AT_MOST", to = "n > 2")
    static void p02lettersAreFrom1To3() {
        int[] wrong = {0, 4, -1, 5, MIN, MAX};
        for (int n : wrong) {
            Bench.refused("letters(" + n + ", 7)", x -> x.letters(n, 7));
        }
        HeapTower x = new HeapTower();
        due("letters(1, 7)", x.letters(1, 7), 1);
        due("letters(3, 7)", x.letters(3, 7), 1);
    }

    @Says(promise = 2, value = "p is no prime from 2 to 97")
    @Break(at = "static boolean isPrime(", from = "p < 2", to = "p < 1")
    @Break(at = "static boolean isPrime(", from = "p < 2", to = "p < 3")
    @Break(at = "static boolean isPrime(", from = "p > PRIME_TOP", to = "p > 101")
    @Break(at = "static boolean isPrime(", from = "p > PRIME_TOP", to = "p > 96")
    @Break(at = "static boolean isPrime(", from = "q * q <= p", to = "q * q < p")
    @Break(at = "static boolean isPrime(", from = "p % q == 0", to = "p % q == 0 && p != 91")
    static void p02primesAreFrom2To97() {
        for (int p = -10; p <= 130; p++) {
            if (Arrays.binarySearch(Bench.PRIMES, p) < 0) {
                int wrong = p;
                Bench.refused("letters(3, " + p + ")", x -> x.letters(3, wrong));
            } else {
                due("P", Bench.of(3, p).told(1), p);
            }
        }
        int[] far = {MIN, MIN + 1, -97, -7, 1 << 30, MAX};
        for (int p : far) {
            Bench.refused("letters(3, " + p + ")", x -> x.letters(3, p));
        }
    }

    // ---- 3

    @Says(promise = 3, value = "The ORDER becomes 0 or 1: what it was.")
    @Break(at = "public int order(", from = "return before;", to = "return order;")
    @Break(at = "public int order(", from = "forgetAllBases();", to = "")
    @Break(at = "public int order(", from = "products.letterCount(), order", to = "3, order")
    @Break(at = "private void forgetAllBases(", from = "theOther.forgetBase();", to = "")
    static void p03whatItWas() {
        HeapTower x = Bench.twoCones();
        due("order(0) of 0", x.order(0), 0);
        due("base(10) by order 0", x.base(10), 3);
        due("order(1) of 0", x.order(1), 0);
        due("base(10) by order 1", x.base(10), 4);
        due("order(1) of 1", x.order(1), 1);
        due("order(0) of 1", x.order(0), 1);
        due("order(0) again", x.order(0), 0);
        due("base(10) by order 0", x.base(10), 3);
        HeapTower two = Bench.of(2, 7);
        two.order(1);
        due("letters stay", two.told(0), 2);
        HeapTower other = Bench.twoCones();
        other.keep();
        due("in the other", other.dimension(1, 10), 62);
        other.order(1);
        other.swap();
        due("the other's base by order 1", other.base(10), 4);
    }

    @Says(promise = 3, value = "NO: another one.")
    @Break(at = "public int order(", from = "order != 0 && order != 1", to = "order != 0 && order != 1 && order != 2")
    @Break(at = "public int order(", from = "order != 0 && order != 1", to = "order > 1")
    static void p03anotherOrder() {
        int[] wrong = {-1, 2, 3, MIN, MAX};
        for (int order : wrong) {
            Bench.refused("order(" + order + ")", x -> x.order(order));
        }
    }

    // ---- 4

    @Says(promise = 4, value = "the NUMBER that it has there then")
    @Break(at = "public int term(", from = "+ numbers.modulo(c)", to = "+ c")
    @Break(at = "public int term(", from = "theDraft.numberAt(degree, place) + ", to = "")
    @Break(at = "public int term(", from = "return now;", to = "return numbers.modulo(c);")
    static void p04theNumberThen() {
        for (int p : Bench.PRIMES) {
            HeapTower x = Bench.of(3, p);
            due("P - 1", x.term(p - 1, 1, 0, 0), p - 1);
            due("and 1 more come to 0", x.term(1, 1, 0, 0), 0);
            due("and are no product then", x.draft(0), 0);
            due("c of 0", x.term(0, 2, 0, 0), 0);
            due("c of P", x.term(p, 2, 0, 0), 0);
            due("and are no product either", x.draft(0), 0);
            due("the greatest c", x.term(MAX, 3, 0, 0), MAX % p);
            due("twice", x.term(MAX, 3, 0, 0), 2 * (MAX % p) % p);
            due("the least c", x.term(MIN, 4, 0, 0), (int) Math.floorMod((long) MIN, (long) p));
            due("twice", x.term(MIN, 4, 0, 0), (int) Math.floorMod(2L * MIN, (long) p));
        }
    }

    @Says(promise = 4, value = "NO: a power is below 0")
    @Break(at = "private boolean isProduct(", from = "x < 0 ||", to = "x < 0 && y < 1 ||")
    @Break(at = "private boolean isProduct(", from = "y < 0 ||", to = "")
    @Break(at = "private boolean isProduct(", from = "z < 0 ||", to = "z < -1 ||")
    static void p04powersFrom0On() {
        Bench.refused("x", x -> x.term(1, -1, 1, 1));
        Bench.refused("y", x -> x.term(1, 1, -1, 1));
        Bench.refused("z", x -> x.term(1, 1, 1, -1));
        Bench.refused("x alone", x -> x.term(1, -1, 0, 0));
        Bench.refused("y alone", x -> x.term(1, 0, -1, 0));
        Bench.refused("z alone", x -> x.term(1, 0, 0, -1));
        Bench.refused("all", x -> x.term(1, MIN, MIN, MIN));
        Bench.refused("one, with a sum of 10", x -> x.term(1, 11, -1, 0));
        Bench.refused("number 0", x -> x.term(0, -1, 0, 0));
        due("all 0", Bench.busy().term(1, 0, 0, 0), 1);
    }

    @Says(promise = 4, value = "one of a letter that there is not is not 0")
    @Break(at = "private boolean isProduct(", from = "n < 2 && y != 0", to = "n < 1 && y != 0")
    @Break(at = "private boolean isProduct(", from = "n < 3 && z != 0", to = "n < 2 && z != 0")
    @Break(at = "private boolean isProduct(", from = "n < 3 && z != 0", to = "n == 2 && z != 0")
    static void p04lettersThatAreNot() {
        Bench.refused("y of one letter", () -> Bench.of(1, 5), x -> x.term(1, 0, 1, 0));
        Bench.refused("z of one letter", () -> Bench.of(1, 5), x -> x.term(1, 0, 0, 1));
        Bench.refused("z of two letters", () -> Bench.of(2, 5), x -> x.term(1, 0, 0, 1));
        Bench.refused("number 0", () -> Bench.of(2, 5), x -> x.term(0, 0, 0, 10));
        due("x of one letter", Bench.of(1, 5).term(1, 10, 0, 0), 1);
        due("y of two letters", Bench.of(2, 5).term(1, 0, 10, 0), 1);
        due("z of three letters", Bench.of(3, 5).term(1, 0, 0, 10), 1);
    }

    @Says(promise = 4, value = "its DEGREE is above 10")
    @Break(at = "private boolean isProduct(", from = "x + y + z <= TOP", to = "x + y + z < TOP")
    @Break(at = "private boolean isProduct(", from = "x + y + z <= TOP", to = "true")
    @Break(at = "private boolean isProduct(", from = "x <= TOP && y <= TOP && z <= TOP && ", to = "")
    static void p04degreeUpTo10() {
        int[][] wrong = {{11, 0, 0}, {0, 11, 0}, {0, 0, 11}, {10, 1, 0}, {4, 4, 3}, {0, 10, 1}, {10, 10, 10},
            {MAX, 1, 0}, {MAX, MAX, 2}, {1 << 30, 1 << 30, 1 << 30}, {MAX, MAX, MAX}, {0, MAX, 1}};
        for (int[] w : wrong) {
            Bench.refused("term(1, " + w[0] + ", " + w[1] + ", " + w[2] + ")", x -> x.term(1, w[0], w[1], w[2]));
        }
        HeapTower x = new HeapTower();
        int[][] right = {{10, 0, 0}, {0, 10, 0}, {0, 0, 10}, {9, 1, 0}, {4, 3, 3}};
        for (int[] w : right) {
            due("degree 10", x.term(3, w[0], w[1], w[2]), 3);
        }
        due("all are there", x.draft(0), 5);
    }

    // ---- 5

    @Says(promise = 5, value = "The NUMBER of a PRODUCT in THE DRAFT.")
    @Break(at = "public int number(", from = "Products.place(y, z)", to = "Products.place(z, y)")
    @Break(at = "public int number(", from = "theDraft.numberAt(x + y + z,", to = "theDraft.numberAt(10,")
    static void p05ofEveryProduct() {
        HeapTower x = Bench.of(3, 97);
        for (int i = 0; i < 1331; i++) {
            x.term(i, i / 121, i / 11 % 11, i % 11);
        }
        for (int i = 0; i < 1331; i++) {
            boolean is = i / 121 + i / 11 % 11 + i % 11 <= 10;
            due("number of " + i, x.number(i / 121, i / 11 % 11, i % 11), is ? i % 97 : NO);
        }
        x.wipe();
        due("of one that is not there", x.number(10, 0, 0), 0);
    }

    @Says(promise = 5, value = "NO as of term().")
    @Break(at = "public int number(", from = "isProduct(x, y, z) ?", to = "x + y + z <= TOP && x >= 0 ?")
    @Break(at = "private boolean isProduct(", from = "x + y + z <= TOP", to = "x + y + z < TOP")
    @Break(at = "private boolean isProduct(", from = "z < 0 ||", to = "z < -1 ||")
    static void p05refusedAsTerm() {
        int[][] wrong = {{-1, 0, 0}, {0, -1, 0}, {0, 0, -1}, {-1, 1, 1}, {1, -1, 1}, {1, 1, -1}, {11, -1, 0},
            {11, 0, 0}, {0, 11, 0}, {0, 0, 11}, {4, 4, 3}, {MAX, MAX, 2}, {MAX, 1, 0}, {MIN, MIN, 0}};
        for (int[] w : wrong) {
            Bench.refused("number(" + w[0] + ", " + w[1] + ", " + w[2] + ")", x -> x.number(w[0], w[1], w[2]));
        }
        Bench.refused("y of one letter", () -> Bench.of(1, 5), x -> x.number(0, 1, 0));
        Bench.refused("z of one letter", () -> Bench.of(1, 5), x -> x.number(0, 0, 1));
        Bench.refused("z of two letters", () -> Bench.of(2, 5), x -> x.number(0, 0, 1));
        HeapTower x = new HeapTower();
        int[][] right = {{0, 0, 0}, {10, 0, 0}, {0, 10, 0}, {0, 0, 10}, {4, 3, 3}};
        for (int[] w : right) {
            due("a product of degree 0 or 10", x.number(w[0], w[1], w[2]), 0);
        }
    }

    // ---- 6

    @Says(promise = 6, value = "THE DRAFT becomes 0: how many PRODUCTS it had.")
    @Break(at = "public int wipe(", from = "theDraft.clear();", to = "")
    @Break(at = "public int wipe(", from = "return had;", to = "return theDraft.size();")
    @Break(at = "int size() {", from = "i < ALL", to = "i < ALL - 1")
    @Break(at = "int size() {", from = "int i = 0", to = "int i = 1")
    static void p06noProductsAndAll() {
        HeapTower x = new HeapTower();
        due("of 0", x.wipe(), 0);
        Bench.writeAll(x);
        due("of all products", x.wipe(), 286);
        due("then", x.draft(0), 0);
        due("of 0 again", x.wipe(), 0);
        x.term(3, 1, 0, 0);
        x.term(4, 1, 0, 0);
        due("of what has come to 0", x.wipe(), 0);
        HeapTower two = Bench.of(2, 2);
        Bench.writeAll(two);
        due("of all products of two letters", two.wipe(), 66);
        HeapTower one = Bench.of(1, 2);
        Bench.writeAll(one);
        due("of all products of one letter", one.wipe(), 11);
    }

    // ---- 7

    @Says(promise = 7, value = "0 how many PRODUCTS it has")
    @Break(at = "int size() {", from = "i < ALL", to = "i < ALL - 1")
    @Break(at = "public int draft(", from = "return theDraft.size();", to = "return theDraft.degree() + 1;")
    static void p07howMany() {
        HeapTower x = new HeapTower();
        due("of 0", x.draft(0), 0);
        Bench.writeAll(x);
        due("of all products", x.draft(0), 286);
        x.term(6, 0, 0, 10);
        due("the last has come to 0", x.draft(0), 285);
        x.term(6, 0, 0, 0);
        due("the first has come to 0", x.draft(0), 284);
    }

    @Says(promise = 7, value = "1 its DEGREE (the greatest; -1 of 0)")
    @Break(at = "int degree() {", from = "d >= 0 && sizeOf(d) == 0", to = "d > 0 && sizeOf(d) == 0")
    @Break(at = "int degree() {", from = "int d = TOP;", to = "int d = TOP - 1;")
    static void p07degree() {
        HeapTower x = new HeapTower();
        due("of 0", x.draft(1), -1);
        x.term(1, 0, 0, 0);
        due("of a number", x.draft(1), 0);
        x.term(1, 0, 0, 10);
        x.term(1, 9, 0, 0);
        due("the greatest", x.draft(1), 10);
        x.term(6, 0, 0, 10);
        due("the greatest that is left", x.draft(1), 9);
        x.term(6, 9, 0, 0);
        x.term(6, 0, 0, 0);
        due("of what has come to 0", x.draft(1), -1);
    }

    @Says(promise = 7, value = "2 1 if it is EVEN, else 0")
    @Break(at = "boolean isEven(", from = "return d < 0 || sizeOf", to = "return d >= 0 && sizeOf")
    @Break(at = "boolean isEven(", from = "sizeOf(d) == size()", to = "sizeOf(d) > 0")
    @Break(at = "public int draft(", from = "theDraft.isEven() ? 1 : 0", to = "theDraft.degree() < 1 ? 0 : 1")
    static void p07even() {
        HeapTower x = new HeapTower();
        due("0", x.draft(2), 1);
        x.term(1, 0, 0, 0);
        due("a number", x.draft(2), 1);
        x.term(1, 10, 0, 0);
        due("of degree 0 and 10", x.draft(2), 0);
        x.term(6, 0, 0, 0);
        due("of degree 10", x.draft(2), 1);
        x.term(1, 0, 0, 10);
        due("two of degree 10", x.draft(2), 1);
        x.term(1, 0, 0, 9);
        due("of degree 9 and 10", x.draft(2), 0);
    }

    @Says(promise = 7, value = "3 the powers of THE HEAD, as 10000 times that of letter 0, 100 times that of letter 1,"
            + " and that of letter 2 (-1 of 0)")
    @Break(at = "private int headOfDraft(", from = "return -1;", to = "return 0;")
    @Break(at = "private int headOfDraft(", from = "degree < 0 || place < 0", to = "degree <= 0 || place < 0")
    @Break(at = "private int headOfDraft(", from = "100 * products", to = "10 * products")
    static void p07head() {
        HeapTower x = new HeapTower();
        due("of 0", x.draft(3), -1);
        Bench.write(x, 1, 0, 0, 0);
        due("of a number", x.draft(3), 0);
        Bench.write(x, 1, 10, 0, 0);
        due("of x^10", x.draft(3), 100000);
        Bench.write(x, 1, 0, 10, 0);
        due("of y^10", x.draft(3), 1000);
        Bench.write(x, 1, 0, 0, 10);
        due("of z^10", x.draft(3), 10);
        Bench.write(x, 1, 0, 0, 10, 6, 0, 0, 10);
        due("of what has come to 0", x.draft(3), -1);
        Bench.writeAll(x);
        due("of all products", x.draft(3), 100000);
    }

    @Says(promise = 7, value = "NO: another what.")
    @Break(at = "public int draft(", from = "default:", to = "case 4: return 0; default:")
    @Break(at = "public int draft(", from = "case 0:", to = "case -1: case 0:")
    static void p07anotherWhat() {
        int[] wrong = {-1, 4, 5, MIN, MAX};
        for (int what : wrong) {
            Bench.refused("draft(" + what + ")", x -> x.draft(what));
        }
    }

    // ---- 8

    @Says(promise = 8, value = "THE DRAFT becomes that times the PRODUCT: how many PRODUCTS it has.")
    @Break(at = "public int times(", from = "return theDraft.size();", to = "return 1;")
    @Break(at = "void moveUp(", from = "degree > 0 && d >= 0", to = "d >= 1")
    @Break(at = "void moveUp(", from = "int d = TOP;", to = "int d = TOP - 1;")
    static void p08timesOneAndTimesDegree10() {
        HeapTower x = new HeapTower();
        due("0 times 1", x.times(0, 0, 0), 0);
        due("0 times x^10", x.times(10, 0, 0), 0);
        due("it is 0", x.draft(1), -1);
        Bench.writeAll(x);
        due("all products times 1", x.times(0, 0, 0), 286);
        due("number of 1", x.number(0, 0, 0), 1);
        Bench.write(x, 5, 0, 0, 0);
        due("a number times y^10", x.times(0, 10, 0), 1);
        Bench.draftIs("5 y^10", x, 5, 0, 10, 0);
        Bench.write(x, 1, 0, 0, 0, 2, 1, 0, 0, 3, 9, 0, 0);
        due("over all degrees", x.times(1, 0, 0), 3);
        Bench.draftIs("x + 2 x x + 3 x^10", x, 1, 1, 0, 0, 2, 2, 0, 0, 3, 10, 0, 0);
    }

    @Says(promise = 8, value = "NO: as of term()")
    @Break(at = "public int times(", from = "!isProduct(x, y, z) ||", to = "x < 0 || y < 0 || z < 0 || x > 10 ||")
    @Break(at = "private boolean isProduct(", from = "z < 0 ||", to = "z < -1 ||")
    @Break(at = "private boolean isProduct(", from = "x <= TOP && y <= TOP && z <= TOP && ", to = "")
    static void p08refusedAsTerm() {
        int[][] wrong = {{-1, 0, 0}, {0, -1, 0}, {0, 0, -1}, {-1, 1, 1}, {1, -1, 1}, {1, 1, -1}, {MIN, 0, 0},
            {MAX, MAX, 2}, {MAX, 1, 0}, {MAX, 0, 0}};
        for (int[] w : wrong) {
            Bench.refused("times(" + w[0] + ", " + w[1] + ", " + w[2] + ")", x -> x.times(w[0], w[1], w[2]));
        }
        Bench.refused("0 times degree 11", () -> Bench.busyWith(), x -> x.times(11, 0, 0));
        Bench.refused("0 times degree 11 of two letters", () -> Bench.busyWith(), x -> x.times(10, 0, 1));
        Bench.refused("y of one letter", () -> Bench.of(1, 5), x -> x.times(0, 1, 0));
        Bench.refused("z of one letter", () -> Bench.of(1, 5), x -> x.times(0, 0, 1));
        Bench.refused("z of two letters", () -> Bench.of(2, 5), x -> x.times(0, 0, 1));
    }

    @Says(promise = 8, value = "a PRODUCT of it would have a DEGREE above 10")
    @Break(at = "public int times(", from = "x + y + z > TOP", to = "x + y + z > TOP + 1")
    @Break(at = "public int times(", from = "x + y + z > TOP", to = "x + y + z >= TOP")
    static void p08degreeUpTo10() {
        Bench.refused("degree 2 times 9", x -> x.times(0, 0, 9));
        Bench.refused("degree 2 times 10", x -> x.times(10, 0, 0));
        Bench.refused("degrees 0 and 10 times 1", () -> Bench.busyWith(1, 0, 0, 0, 1, 10, 0, 0), x -> x.times(1, 0, 0));
        Bench.refused("degree 10 times 1 of y", () -> Bench.busyWith(1, 10, 0, 0), x -> x.times(0, 1, 0));
        Bench.refused("degree 1 times 10", () -> Bench.busyWith(1, 0, 0, 1), x -> x.times(3, 3, 4));
        HeapTower x = Bench.busyWith(1, 1, 1, 0);
        due("degree 2 times 8", x.times(0, 0, 8), 1);
        Bench.draftIs("x y z^8", x, 1, 1, 1, 8);
        due("degree 10 times 1", x.times(0, 0, 0), 1);
    }
}
