/** The boundary cases of promises 9 to 17: a test for each sentence, with breaks of it. */
public final class HeapBoundariesTest {
    private static final int NO = Bench.NO;
    private static final int MIN = Bench.MIN;
    private static final int MAX = Bench.MAX;

    private HeapBoundariesTest() {
    }

    public static void main(String[] args) {
        Bench.runAll(HeapBoundariesTest.class);
    }

    private static void due(String call, int got, int want) {
        Bench.due(call, got, want);
    }

    /** x x y y and x y^4 - z^5: their base has x z^5 and z^10, too. */
    private static HeapTower upToDegree10() {
        HeapTower x = new HeapTower();
        Bench.row(x, 1, 2, 2, 0);
        Bench.row(x, 1, 1, 4, 0, -1, 0, 0, 5);
        return x;
    }

    /** x x x y y and x y^4 - z^5: x x z^5 is of their base, x z^10 comes only in degree 11. */
    private static HeapTower upToDegree11() {
        HeapTower x = new HeapTower();
        Bench.row(x, 1, 3, 2, 0);
        Bench.row(x, 1, 1, 4, 0, -1, 0, 0, 5);
        return x;
    }

    // ---- 9

    @Says(promise = 9, value = "THE DRAFT is one ROW more; it is 0 then: the number of the ROW.")
    @Break(at = "public int row(", from = "theDraft.clear();", to = "")
    @Break(at = "public int row(", from = "return r;", to = "return r + 1;")
    @Break(at = "public int row(", from = "heapChanged(degree);", to = "")
    @Break(at = "void append(Polynomial", from = "base.forget(degree);", to = "")
    @Break(at = "private void heapChanged(", from = "productBase.forget(degree);", to = "")
    static void p09fromTheFirstToTheSixth() {
        HeapTower x = new HeapTower();
        for (int r = 0; r < 6; r++) {
            due("count before row " + r, x.count(5), 21 - r);
            due("sum of heaps before row " + r, x.dimension(2, 5), r);
            Bench.write(x, 1, r < 3 ? 5 - r : 0, r < 3 ? r : 8 - r, r < 3 ? 0 : r - 3);
            due("row " + r, x.row(), r);
            due("the draft then", x.draft(0), 0);
            due("rows", x.told(3), r + 1);
        }
        due("count after all", x.count(5), 15);
        due("sum of heaps after all", x.dimension(2, 5), 6);
        HeapTower y = new HeapTower();
        Bench.row(y, 1, 1, 0, 0);
        y.keep();
        due("product of x and x", y.dimension(4, 10), 45);
        Bench.row(y, 1, 0, 5, 0);
        // x y^5 has, of degree 10, five multiples that x x does not divide.
        due("product of x, y^5 and x", y.dimension(4, 10), 50);
        due("drop", y.drop(), 1);
        due("product after it is dropped", y.dimension(4, 10), 45);
    }

    @Says(promise = 9, value = "NO: it is not EVEN")
    @Break(at = "public int row(", from = "!theDraft.isEven() || ", to = "")
    static void p09notEven() {
        Bench.refused("degrees 1 and 2", () -> Bench.busyWith(1, 1, 0, 0, 1, 0, 2, 0), HeapTower::row);
        Bench.refused("degrees 0 and 5", () -> Bench.busyWith(1, 0, 0, 0, 1, 0, 5, 0), HeapTower::row);
        Bench.refused("degrees 5 and 6", () -> Bench.busyWith(1, 5, 0, 0, 1, 0, 6, 0), HeapTower::row);
        HeapTower x = Bench.busyWith(1, 1, 0, 0, 1, 0, 2, 0, 10, 1, 0, 0);
        due("even since x has come to 0", x.row(), 3);
    }

    @Says(promise = 9, value = "NO: it is not EVEN, 0,")
    @Break(at = "public int row(", from = "degree < 1", to = "degree == 0")
    static void p09nought() {
        Bench.refused("0", () -> Bench.busyWith(), HeapTower::row);
        Bench.refused("what has come to 0", () -> Bench.busyWith(4, 1, 1, 0, 7, 1, 1, 0), HeapTower::row);
        Bench.refused("0 of a new object", HeapTower::new, HeapTower::row);
    }

    @Says(promise = 9, value = "of a DEGREE that is not 1..5")
    @Break(at = "public int row(", from = "degree < 1", to = "degree < 0")
    @Break(at = "public int row(", from = "degree < 1", to = "degree < 2")
    @Break(at = "public int row(", from = "degree > ROW_TOP", to = "degree > 9")
    @Break(at = "public int row(", from = "degree > ROW_TOP", to = "degree > 4")
    static void p09degreesFrom1To5() {
        Bench.refused("degree 0", () -> Bench.busyWith(1, 0, 0, 0), HeapTower::row);
        Bench.refused("degree 6", () -> Bench.busyWith(1, 2, 2, 2), HeapTower::row);
        Bench.refused("degree 10", () -> Bench.busyWith(1, 10, 0, 0), HeapTower::row);
        HeapTower x = Bench.busyWith(1, 1, 0, 0);
        due("degree 1", x.row(), 3);
        Bench.write(x, 1, 0, 0, 5, 1, 5, 0, 0);
        due("degree 5", x.row(), 4);
        due("copy of degree 5", x.copy(4), 2);
        Bench.draftIs("row of degree 5", x, 1, 0, 0, 5, 1, 5, 0, 0);
    }

    @Says(promise = 9, value = "or there are 6")
    @Break(at = "boolean isFull(", from = "size >= ROWS_AT_MOST", to = "size > ROWS_AT_MOST")
    @Break(at = "boolean isFull(", from = "size >= ROWS_AT_MOST", to = "size >= 5")
    static void p09sixRows() {
        Bench.refused("a seventh row", () -> {
            HeapTower x = Bench.sixRows();
            Bench.write(x, 1, 1, 0, 0);
            return x;
        }, HeapTower::row);
        HeapTower x = Bench.sixRows();
        due("drop", x.drop(), 5);
        Bench.row(x, 1, 0, 0, 1);
        due("the sixth again", x.told(3), 6);
        x.keep();
        while (x.told(3) > 0) {
            x.drop();
        }
        Bench.row(x, 1, 0, 0, 1);
        due("beside six of the other", x.told(4), 6);
    }

    // ---- 10

    @Says(promise = 10, value = "The latest ROW goes: how many are left (CLAIMS of it, too).")
    @Break(at = "public int drop(", from = "claims[r].clear();", to = "")
    @Break(at = "public int drop(", from = "claims[r].clear();", to = "clearClaims();")
    @Break(at = "public int drop(", from = "return r;", to = "return r + 1;")
    @Break(at = "public int drop(", from = "heapChanged(degree);", to = "")
    @Break(at = "void removeLatest(", from = "base.forget(degrees[size]);", to = "")
    static void p10downToNone() {
        HeapTower x = Bench.sixRows();
        for (int r = 0; r < 6; r++) {
            Bench.claim(x, r, 1, 0, 0, 0);
        }
        for (int left = 5; left >= 0; left--) {
            due("drop", x.drop(), left);
            due("rows", x.told(3), left);
            due("no row of that number", x.copy(left), NO);
            due("claims of the others", x.sum(), left);
            due("in the heap", x.dimension(0, 2), left);
            due("in the sum with none", x.dimension(2, 2), left);
        }
        for (int r = 0; r < 6; r++) {
            Bench.row(x, 1, 0, r, 5 - r);
        }
        due("claims of new rows", x.sum(), 0);
    }

    @Says(promise = 10, value = "NO: there is none.")
    @Break(at = "public int drop(", from = "theHeap.size() == 0", to = "theHeap.size() < 0")
    @Break(at = "public int drop(", from = "theHeap.size() == 0", to = "theHeap.size() <= 1")
    static void p10none() {
        Bench.refused("of a new object", HeapTower::new, HeapTower::drop);
        Bench.refused("beside rows of the other", () -> {
            HeapTower x = Bench.busy();
            due("drop", x.drop(), 2);
            due("drop", x.drop(), 1);
            due("drop of the only one", x.drop(), 0);
            return x;
        }, HeapTower::drop);
        Bench.refused("after letters()", () -> {
            HeapTower x = Bench.busy();
            due("letters", x.letters(3, 7), 1);
            return x;
        }, HeapTower::drop);
    }

    // ---- 11

    @Says(promise = 11, value = "THE DRAFT becomes a ROW: how many PRODUCTS it has.")
    @Break(at = "public int copy(", from = "theDraft.clear();", to = "")
    @Break(at = "public int copy(", from = "return theDraft.size();", to = "return 1;")
    static void p11theFirstAndTheLast() {
        HeapTower x = Bench.busyWith(1, 10, 0, 0, 1, 0, 0, 0);
        due("row 0", x.copy(0), 2);
        Bench.draftIs("row 0", x, 1, 2, 0, 0, 3, 0, 1, 1);
        due("row 2", x.copy(2), 1);
        Bench.draftIs("row 2", x, 5, 0, 3, 0);
        x.term(1, 0, 3, 0);
        due("row 2 is as it was", x.copy(2), 1);
        Bench.draftIs("row 2 again", x, 5, 0, 3, 0);
        HeapTower six = Bench.sixRows();
        due("row 5 of six", six.copy(5), 1);
        Bench.draftIs("z z", six, 1, 0, 0, 2);
    }

    @Says(promise = 11, value = "NO: there is no such ROW.")
    @Break(at = "boolean has(", from = "r >= 0 && ", to = "")
    @Break(at = "boolean has(", from = "r < size", to = "r <= size")
    @Break(at = "boolean has(", from = "r < size", to = "r < size - 1")
    static void p11noSuchRow() {
        int[] wrong = {-1, 3, 4, 5, 6, MIN, MAX};
        for (int r : wrong) {
            Bench.refused("copy(" + r + ")", x -> x.copy(r));
        }
        Bench.refused("of no rows", HeapTower::new, x -> x.copy(0));
        Bench.refused("row 6 of six", Bench::sixRows, x -> x.copy(6));
        due("row 2 of three", Bench.busy().copy(2), 1);
    }

    // ---- 12

    @Says(promise = 12, value = "THE DRAFT becomes its REST: how many PRODUCTS it has.")
    @Break(at = "public int rest(", from = "d <= degree", to = "d < degree")
    @Break(at = "public int rest(", from = "baseUpTo(degree)", to = "baseUpTo(ROW_TOP)")
    @Break(at = "public int rest(", from = "return theDraft.size();", to = "return degree;")
    static void p12noughtAllAndDegree10() {
        HeapTower none = new HeapTower();
        due("of 0, by no rows", none.rest(), 0);
        Bench.writeAll(none);
        due("of all products, by no rows", none.rest(), 286);
        HeapTower x = Bench.allLetters(3, 7);
        due("of 0, by all letters", x.rest(), 0);
        Bench.writeAll(x);
        due("of all products, by all letters", x.rest(), 1);
        Bench.draftIs("the number is left", x, 1, 0, 0, 0);
        HeapTower y = upToDegree10();
        Bench.write(y, 1, 0, 0, 10);
        due("of z^10", y.rest(), 0);
        Bench.write(y, 1, 0, 0, 9, 2, 1, 9, 0, 3, 0, 0, 0);
        due("of parts of degree 0, 9, 10", y.rest(), 3);
        Bench.draftIs("x y^9 goes to y^5 z^5", y, 1, 0, 0, 9, 2, 0, 5, 5, 3, 0, 0, 0);
        due("the rest of a rest", y.rest(), 3);
    }

    // ---- 13

    @Says(promise = 13, value = "1 if THE DRAFT is IN the HEAP, else 0.")
    @Break(at = "public int in(", from = "d <= degree", to = "d < degree")
    @Break(at = "public int in(", from = "int d = 0;", to = "int d = 1;")
    @Break(at = "public int in(", from = "return 1;", to = "return degree < 0 ? 0 : 1;")
    static void p13noughtANumberAndDegree10() {
        HeapTower none = new HeapTower();
        due("0, of no rows", none.in(), 1);
        Bench.write(none, 1, 1, 0, 0);
        due("x, of no rows", none.in(), 0);
        HeapTower x = Bench.allLetters(3, 7);
        due("0, of all letters", x.in(), 1);
        Bench.write(x, 1, 0, 0, 0);
        due("a number, of all letters", x.in(), 0);
        Bench.writeAll(x);
        due("all products, of all letters", x.in(), 0);
        x.term(6, 0, 0, 0);
        due("all products but 1", x.in(), 1);
        HeapTower y = upToDegree10();
        Bench.write(y, 1, 0, 0, 10);
        due("z^10", y.in(), 1);
        y.term(1, 2, 2, 0);
        due("z^10 + x x y y", y.in(), 1);
        y.term(1, 0, 10, 0);
        due("and y^10", y.in(), 0);
        Bench.write(y, 1, 0, 0, 9);
        due("z^9", y.in(), 0);
    }

    // ---- 14

    @Says(promise = 14, value = "How many POLYNOMIALS THE BASE has up to a DEGREE.")
    @Break(at = "public int base(", from = ".sizeUpTo(d)", to = ".sizeUpTo(d - 1)")
    @Break(at = "public int base(", from = "theHeap.baseUpTo(d).sizeUpTo(d)", to = "theHeap.baseUpTo(d).sizeUpTo(TOP)")
    static void p14upToEachDegree() {
        int[] of10 = {0, 0, 0, 1, 2, 3, 3, 3, 3, 4};
        int[] of11 = {0, 0, 0, 0, 2, 2, 3, 3, 3, 3};
        for (int d = 1; d <= 10; d++) {
            due("of no rows: base(" + d + ")", new HeapTower().base(d), 0);
            due("of all letters: base(" + d + ")", Bench.allLetters(3, 7).base(d), 3);
            due("one of degree 10: base(" + d + ")", upToDegree10().base(d), of10[d - 1]);
            due("one of degree 11: base(" + d + ")", upToDegree11().base(d), of11[d - 1]);
        }
        HeapTower x = upToDegree10();
        for (int d = 10; d >= 1; d--) {
            due("the greatest degree first: base(" + d + ")", x.base(d), of10[d - 1]);
        }
    }

    @Says(promise = 14, value = "NO: d is not 1..10.")
    @Break(at = "public int base(", from = "d >= 1", to = "d >= 0")
    @Break(at = "public int base(", from = "d >= 1", to = "d >= 2")
    @Break(at = "public int base(", from = "d <= TOP", to = "d < TOP")
    @Break(at = "public int base(", from = "d <= TOP", to = "true")
    static void p14degreesFrom1To10() {
        int[] wrong = {0, 11, -1, 12, MIN, MAX};
        for (int d : wrong) {
            Bench.refused("base(" + d + ")", x -> x.base(d));
        }
        due("base(1)", Bench.busy().base(1), 1);
        due("base(10)", Bench.busy().base(10), 3);
    }

    // ---- 15

    @Says(promise = 15, value = "THE DRAFT becomes number k (from 0 on) of THE BASE up to DEGREE 10:"
            + " how many PRODUCTS it has.")
    @Break(at = "public int element(", from = "theDraft.clear();", to = "")
    @Break(at = "public int element(", from = "baseUpTo(TOP)", to = "baseUpTo(TOP - 1)")
    @Break(at = "public int element(", from = "return theDraft.size();", to = "return 1;")
    @Break(at = "public int element(", from = "all.loadElement(k", to = "all.loadElement(0")
    static void p15theFirstAndTheLast() {
        HeapTower x = upToDegree10();
        Bench.write(x, 1, 0, 0, 0, 1, 0, 9, 1);
        due("number 0", x.element(0), 1);
        Bench.draftIs("x x y y", x, 1, 2, 2, 0);
        due("number 3", x.element(3), 1);
        Bench.draftIs("z^10", x, 1, 0, 0, 10);
        due("number 1", x.element(1), 2);
        Bench.draftIs("x y^4 - z^5", x, 1, 1, 4, 0, 6, 0, 0, 5);
        due("number 2", x.element(2), 1);
        Bench.draftIs("x z^5", x, 1, 1, 0, 5);
    }

    @Says(promise = 15, value = "NO: there is none such.")
    @Break(at = "public int element(", from = "k < 0 || ", to = "")
    @Break(at = "public int element(", from = "k >= all", to = "k > all")
    @Break(at = "public int element(", from = "k >= all", to = "k + 1 >= all")
    static void p15noneSuch() {
        int[] wrong = {-1, 4, 5, 66, MIN, MAX};
        for (int k : wrong) {
            Bench.refused("element(" + k + ")", () -> {
                HeapTower x = upToDegree10();
                Bench.write(x, 1, 0, 0, 0, 1, 0, 9, 1);
                return x;
            }, x -> x.element(k));
        }
        due("number 3 of four", upToDegree10().element(3), 1);
        due("of degree 11", upToDegree11().element(3), NO);
        Bench.refused("of no rows", HeapTower::new, x -> x.element(0));
        Bench.refused("after a drop", () -> {
            HeapTower x = new HeapTower();
            Bench.row(x, 1, 1, 0, 0);
            due("number 0", x.element(0), 1);
            due("drop", x.drop(), 0);
            return x;
        }, x -> x.element(0));
    }

    // ---- 16

    @Says(promise = 16, value = "COUNT of a DEGREE.")
    @Break(at = "public int count(", from = "baseUpTo(d).standardCount(d)", to = "baseUpTo(d).leadingCount(d)")
    @Break(at = "void close(", from = "standard[d] = products.amount(d) - leading;",
            to = "standard[d] = Math.max(1, products.amount(d) - leading);")
    @Break(at = "private int lineByFirst(", from = "letterCount > 1 ? d : 0", to = "letterCount > 2 ? d : 0")
    @Break(at = "private int lineByFirst(", from = "letterCount > 2 ? s : 0", to = "letterCount > 1 ? s : 0")
    static void p16allAndNone() {
        for (int order = 0; order <= 1; order++) {
            for (int n = 1; n <= 3; n++) {
                HeapTower none = Bench.of(n, 7);
                HeapTower all = Bench.allLetters(n, 7);
                none.order(order);
                all.order(order);
                for (int d = 0; d <= 10; d++) {
                    int products = n == 1 ? 1 : n == 2 ? d + 1 : (d + 1) * (d + 2) / 2;
                    due(n + " letters, no rows: count(" + d + ")", none.count(d), products);
                    due(n + " letters, all of them rows: count(" + d + ")", all.count(d), d == 0 ? 1 : 0);
                }
            }
        }
    }

    @Says(promise = 16, value = "NO: d is not 0..10.")
    @Break(at = "public int count(", from = "d >= 0", to = "true")
    @Break(at = "public int count(", from = "d >= 0", to = "d >= 1")
    @Break(at = "public int count(", from = "d <= TOP", to = "d < TOP")
    @Break(at = "public int count(", from = "d <= TOP", to = "true")
    static void p16degreesFrom0To10() {
        int[] wrong = {-1, 11, -2, 12, MIN, MAX};
        for (int d : wrong) {
            Bench.refused("count(" + d + ")", x -> x.count(d));
        }
        due("count(0)", Bench.busy().count(0), 1);
        due("count(10)", Bench.busy().count(10), 0);
    }

    // ---- 17

    @Says(promise = 0, value = "COUNT(d) is how many PRODUCTS of DEGREE d are STANDARD (0 for d below 0).")
    @Break(at = "private int signedChains(", from = "base.standardCount(j - i)",
            to = "base.standardCount(Math.max(1, j - i))")
    @Break(at = "private int freeAtThird(", from = "return 0;", to = "return 1;")
    static void p17belowTheFloor() {
        HeapTower x = Bench.allLetters(3, 7);
        for (int i = 1; i <= 3; i++) {
            for (int j = 0; j < i; j++) {
                due("free(" + i + ", " + j + ")", x.free(i, j), 0);
            }
        }
        due("free(1, 1)", x.free(1, 1), 3);
        due("free(2, 2)", x.free(2, 2), 3);
        due("free(3, 3)", x.free(3, 3), 1);
    }

    @Says(promise = 17, value = "FREE(i, j).")
    @Break(at = "private int freeAtGround(", from = "j == 0 ? 1 : 0", to = "1")
    @Break(at = "private int freeAtThird(", from = "scratchRows.begin(d);", to = "scratchRows.begin(0);")
    @Break(at = "private int freeAtSecond(", from = "n == LETTERS_AT_MOST ? freeAtThird(base, j) : 0", to = "0")
    @Break(at = "private void loadImages(", from = "base.reduce(d + 1, work);", to = "")
    static void p17fromTheGroundToDegree10() {
        HeapTower none = new HeapTower();
        HeapTower powers = new HeapTower();
        Bench.row(powers, 1, 5, 0, 0);
        Bench.row(powers, 1, 0, 3, 0);
        Bench.row(powers, 1, 0, 0, 2);
        for (int i = 0; i <= 3; i++) {
            for (int j = 0; j <= 10; j++) {
                due("of no rows: free(" + i + ", " + j + ")", none.free(i, j), i + j == 0 ? 1 : 0);
                boolean is = i == 0 && j == 0 || i == 1 && (j == 2 || j == 3 || j == 5)
                        || i == 2 && (j == 5 || j == 7 || j == 8) || i == 3 && j == 10;
                due("of powers: free(" + i + ", " + j + ")", powers.free(i, j), is ? 1 : 0);
            }
        }
        HeapTower two = Bench.of(2, 7);
        Bench.row(two, 1, 5, 0, 0);
        Bench.row(two, 1, 0, 5, 0);
        due("two letters: free(2, 10)", two.free(2, 10), 1);
        HeapTower one = Bench.of(1, 7);
        Bench.row(one, 1, 5, 0, 0);
        due("one letter: free(1, 5)", one.free(1, 5), 1);
    }

    @Says(promise = 0, value = "These are the numbers of free ones of DEGREE j at floor i of the least tower")
    @Break(at = "private void loadImages(", from = "letter)] = 1;", to = "letter)] = 2;")
    static void p17theSameByEveryPrimeAndOrder() {
        // Neither of x y - z z and y y divides nought by the other: one free one at floor 2, none above.
        for (int p : Bench.PRIMES) {
            HeapTower x = Bench.of(3, p);
            Bench.row(x, 1, 1, 1, 0, -1, 0, 0, 2);
            Bench.row(x, 1, 0, 2, 0);
            for (int order = 1; order >= 0; order--) {
                x.order(order);
                for (int i = 0; i <= 3; i++) {
                    for (int j = 0; j <= 10; j++) {
                        int want = i == 0 && j == 0 || i == 2 && j == 4 ? 1 : i == 1 && j == 2 ? 2 : 0;
                        due("P " + p + ": free(" + i + ", " + j + ")", x.free(i, j), want);
                    }
                }
            }
        }
    }

    @Says(promise = 17, value = "NO: i is not 0..3")
    @Break(at = "public int free(", from = "i < 0 ||", to = "i < -1 ||")
    @Break(at = "public int free(", from = "i < 0 ||", to = "i < 1 ||")
    @Break(at = "public int free(", from = "i > LETTERS_AT_MOST ||", to = "i > LETTERS_AT_MOST + 1 ||")
    @Break(at = "public int free(", from = "i > LETTERS_AT_MOST ||", to = "i > LETTERS_AT_MOST - 1 ||")
    static void p17floorsFrom0To3() {
        int[] wrong = {-1, 4, -2, 5, MIN, MAX};
        for (int i : wrong) {
            Bench.refused("free(" + i + ", 3)", x -> x.free(i, 3));
            Bench.refused("free(" + i + ", 0) of one letter", () -> Bench.of(1, 5), x -> x.free(i, 0));
        }
        due("free(0, 0)", Bench.allLetters(3, 7).free(0, 0), 1);
        due("free(3, 3)", Bench.allLetters(3, 7).free(3, 3), 1);
    }

    @Says(promise = 17, value = "or j not 0..10")
    @Break(at = "public int free(", from = "j < 0 ||", to = "j < -1 ||")
    @Break(at = "public int free(", from = "j < 0 ||", to = "j < 1 ||")
    @Break(at = "public int free(", from = "j > TOP", to = "j > TOP + 1")
    @Break(at = "public int free(", from = "j > TOP", to = "j >= TOP")
    @Break(at = "public int free(", from = "if (i < 0",
            to = "if (i > products.letterCount() && i < 4) { return 0; } if (i < 0")
    static void p17degreesFrom0To10() {
        int[] wrong = {-1, 11, -2, 12, MIN, MAX};
        for (int j : wrong) {
            for (int i = 0; i <= 3; i++) {
                int floor = i;
                Bench.refused("free(" + i + ", " + j + ")", x -> x.free(floor, j));
                Bench.refused("free(" + i + ", " + j + ") of one letter", () -> Bench.of(1, 5), x -> x.free(floor, j));
            }
        }
        due("free(0, 0)", Bench.busy().free(0, 0), 1);
        due("free(0, 10)", Bench.busy().free(0, 10), 0);
    }

    @Says(promise = 17, value = "(0 for i above n.)")
    @Break(at = "public int free(", from = "i > products.letterCount()", to = "i > products.letterCount() + 1")
    @Break(at = "public int free(", from = "i > products.letterCount()", to = "i >= products.letterCount()")
    @Break(at = "public int free(", from = "return 0;", to = "return NO;")
    static void p17aboveTheLetters() {
        for (int n = 1; n <= 3; n++) {
            HeapTower x = Bench.allLetters(n, 7);
            due("free(n, n)", x.free(n, n), 1);
            for (int i = n + 1; i <= 3; i++) {
                for (int j = 0; j <= 10; j++) {
                    due(n + " letters: free(" + i + ", " + j + ")", x.free(i, j), 0);
                }
            }
        }
    }
}
