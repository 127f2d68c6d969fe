/** The boundary cases of promises 18 to 26: a test for each sentence, with breaks of it. */
public final class TwoHeapsBoundariesTest {
    private static final int NO = Bench.NO;
    private static final int MIN = Bench.MIN;
    private static final int MAX = Bench.MAX;

    private TwoHeapsBoundariesTest() {
    }

    public static void main(String[] args) {
        Bench.runAll(TwoHeapsBoundariesTest.class);
    }

    private static void due(String call, int got, int want) {
        Bench.due(call, got, want);
    }

    /** Both heaps are of these one-letter powers of letter 0 and letter 1; a power of 0 is no row. */
    private static HeapTower powers(int ofX, int ofY) {
        HeapTower x = new HeapTower();
        if (ofY > 0) {
            Bench.row(x, 1, 0, ofY, 0);
            due("keep", x.keep(), 0);
            due("drop", x.drop(), 0);
        }
        if (ofX > 0) {
            Bench.row(x, 1, ofX, 0, 0);
        }
        return x;
    }

    // ---- 18

    @Says(promise = 18, value = "The dimension of the POLYNOMIALS of DEGREE d (0 with them) in the QUOTIENT"
            + " of the HEAP by THE DRAFT.")
    @Break(at = "public int quotient(", from = "return products.amount(d) -",
            to = "return 1 + products.amount(d) -")
    @Break(at = "public int quotient(", from = "int e = d + degree;", to = "int e = Math.max(d + degree, 1);")
    static void p18nothingAndAll() {
        HeapTower none = new HeapTower();
        HeapTower all = Bench.allLetters(3, 7);
        for (int degree = 0; degree <= 10; degree++) {
            Bench.write(none, 1, degree, 0, 0);
            Bench.write(all, 1, degree, 0, 0);
            for (int d = 0; d + degree <= 10; d++) {
                due("of no rows: only 0", none.quotient(d), 0);
                int want = d + degree == 0 ? 0 : (d + 1) * (d + 2) / 2;
                due("of all letters: everything", all.quotient(d), want);
            }
        }
        due("the draft stays", all.draft(3), 100000);
    }

    @Says(promise = 18, value = "NO: THE DRAFT is not EVEN")
    @Break(at = "public int quotient(", from = "!theDraft.isEven() || ", to = "")
    static void p18notEven() {
        Bench.refused("degrees 0 and 1", () -> Bench.busyWith(1, 0, 0, 0, 1, 1, 0, 0), x -> x.quotient(0));
        Bench.refused("degrees 9 and 10", () -> Bench.busyWith(1, 9, 0, 0, 1, 10, 0, 0), x -> x.quotient(0));
        due("even", Bench.busyWith(1, 10, 0, 0, 1, 0, 10, 0).quotient(0), 1);
    }

    @Says(promise = 18, value = "NO: THE DRAFT is not EVEN, or 0")
    @Break(at = "public int quotient(", from = "degree < 0 ||", to = "")
    @Break(at = "public int quotient(", from = "degree < 0 ||", to = "degree < 1 ||")
    static void p18nought() {
        for (int d = 0; d <= 11; d++) {
            int asked = d;
            Bench.refused("0: " + d, () -> Bench.busyWith(), x -> x.quotient(asked));
        }
        Bench.refused("what has come to 0", () -> Bench.busyWith(4, 1, 0, 0, 7, 1, 0, 0), x -> x.quotient(0));
        due("a number", Bench.busyWith(4, 0, 0, 0).quotient(0), 0);
    }

    @Says(promise = 18, value = "d is below 0")
    @Break(at = "public int quotient(", from = "d < 0 ||", to = "d < -1 ||")
    @Break(at = "public int quotient(", from = "d < 0 ||", to = "d < 1 ||")
    static void p18dFrom0On() {
        int[] wrong = {-1, -2, -10, MIN};
        for (int d : wrong) {
            Bench.refused("quotient(" + d + ")", x -> x.quotient(d));
            Bench.refused("of degree 10: quotient(" + d + ")", () -> Bench.busyWith(1, 10, 0, 0), x -> x.quotient(d));
        }
        due("quotient(0)", Bench.busyWith(1, 0, 0, 1).quotient(0), 1);
    }

    @Says(promise = 18, value = "d and the DEGREE of THE DRAFT are above 10 together")
    @Break(at = "public int quotient(", from = "d > TOP - degree", to = "d > TOP - degree + 1")
    @Break(at = "public int quotient(", from = "d > TOP - degree", to = "d >= TOP - degree")
    @Break(at = "public int quotient(", from = "d > TOP - degree", to = "d + degree > TOP")
    static void p18togetherUpTo10() {
        for (int degree = 0; degree <= 10; degree++) {
            int power = degree;
            HeapTower y = Bench.busyWith(1, degree, 0, 0);
            int d = 10 - degree;
            // Of degree 4 and above all is in the heap of z, x x and y y y.
            due("10 together", y.quotient(d), (d + 1) * (d + 2) / 2);
            int[] wrong = {d + 1, d + 2, 20, MAX - 10, MAX - 1, MAX};
            for (int w : wrong) {
                Bench.refused(degree + " and " + w, () -> Bench.busyWith(1, power, 0, 0), x -> x.quotient(w));
            }
        }
    }

    // ---- 19

    @Says(promise = 19, value = "for each d for which quotient() may be asked its dimension is that of the POLYNOMIALS"
            + " of DEGREE d IN the HEAP; else 0.")
    @Break(at = "public int regular(", from = "e <= TOP", to = "e < TOP")
    @Break(at = "public int regular(", from = "int e = degree;", to = "int e = degree + 1;")
    static void p19eachDegreeFrom0To10Together() {
        // By x^5 the product x^4 takes x into the heap: with x y^k that shows in degree 5 + k.
        HeapTower x = new HeapTower();
        Bench.row(x, 1, 5, 0, 0);
        Bench.write(x, 1, 1, 5, 0);
        due("in degree 10", x.regular(), 0);
        Bench.write(x, 1, 1, 6, 0);
        due("only in degree 11", x.regular(), 1);
        Bench.write(x, 1, 4, 0, 0);
        due("in degree 5", x.regular(), 0);
        // x^5 y^5 is in the heap itself: that shows for d of 0 alone.
        Bench.write(x, 1, 5, 5, 0);
        due("of degree 10, in the heap", x.regular(), 0);
        Bench.write(x, 1, 4, 6, 0);
        due("of degree 10, not in the heap", x.regular(), 1);
        Bench.write(x, 1, 0, 0, 0);
        due("a number", x.regular(), 1);
        Bench.write(x, 1, 0, 1, 0);
        due("y", x.regular(), 1);
        HeapTower none = new HeapTower();
        Bench.write(none, 1, 10, 0, 0);
        due("of degree 10, by no rows", none.regular(), 1);
        HeapTower all = Bench.allLetters(3, 7);
        Bench.write(all, 1, 0, 0, 0);
        due("a number, by all letters", all.regular(), 1);
        Bench.write(all, 1, 0, 0, 10);
        due("z^10, by all letters", all.regular(), 0);
    }

    @Says(promise = 19, value = "NO: as of quotient().")
    @Break(at = "public int regular(", from = "!theDraft.isEven() || ", to = "")
    @Break(at = "public int regular(", from = " || degree < 0", to = "")
    @Break(at = "public int regular(", from = "degree < 0", to = "degree < 1")
    static void p19refusedAsQuotient() {
        Bench.refused("0", () -> Bench.busyWith(), HeapTower::regular);
        Bench.refused("0 of a new object", HeapTower::new, HeapTower::regular);
        Bench.refused("what has come to 0", () -> Bench.busyWith(4, 1, 0, 0, 7, 1, 0, 0), HeapTower::regular);
        Bench.refused("degrees 0 and 1", () -> Bench.busyWith(1, 0, 0, 0, 1, 1, 0, 0), HeapTower::regular);
        Bench.refused("degrees 9 and 10", () -> Bench.busyWith(1, 9, 0, 0, 1, 10, 0, 0), HeapTower::regular);
        due("a number", Bench.busyWith(1, 0, 0, 0).regular(), 1);
        due("of degree 10", Bench.busyWith(1, 10, 0, 0, 1, 0, 10, 0).regular(), 0);
    }

    // ---- 20

    @Says(promise = 20, value = "The HEAP is KEPT: how many ROWS the OTHER one had before.")
    @Break(at = "public int keep(", from = "return before;", to = "return theOther.size();")
    @Break(at = "public int keep(", from = "theOther.become(theHeap);", to = "theOther = theHeap;")
    @Break(at = "public int keep(", from = "sumBase.forget(0);", to = "")
    @Break(at = "public int keep(", from = "productBase.forget(0);", to = "")
    @Break(at = "public int keep(", from = "return before;", to = "clearClaims(); return before;")
    @Break(at = "public int keep(", from = "return before;", to = "theDraft.clear(); return before;")
    @Break(at = "void become(Heap", from = "size = from.size;", to = "size = Math.max(size, from.size);")
    @Break(at = "void become(Heap", from = "ROW_PLACES", to = "ROW_PLACES - 1")
    static void p20noneAndSix() {
        HeapTower x = Bench.sixRows();
        Bench.claim(x, 5, 1, 0, 0, 0);
        Bench.write(x, 3, 1, 0, 0);
        due("the sum before", x.dimension(2, 2), 6);
        due("the product before", x.dimension(4, 4), 0);
        due("none before", x.keep(), 0);
        Bench.draftIs("the draft stays", x, 3, 1, 0, 0);
        due("claims stay", x.sum(), 1);
        due("six now", x.told(4), 6);
        due("the heap has its own, too", x.told(3), 6);
        due("the product", x.dimension(4, 4), 15);
        for (int left = 5; left >= 0; left--) {
            due("drop", x.drop(), left);
            due("the other one has six still", x.told(4), 6);
            due("the other one is as it was", x.dimension(1, 2), 6);
        }
        due("the sum with none", x.dimension(2, 2), 6);
        due("six before", x.keep(), 6);
        due("none now", x.told(4), 0);
        due("nothing in it", x.dimension(1, 10), 0);
        due("the sum of none", x.dimension(2, 2), 0);
        due("none before", x.keep(), 0);
        due("still none", x.told(4), 0);
        Bench.row(x, 1, 5, 0, 0, 2, 0, 0, 5);
        due("none before", x.keep(), 0);
        due("swap", x.swap(), 1);
        due("the first and the last product of degree 5", x.copy(0), 2);
        Bench.draftIs("x^5 + 2 z^5", x, 1, 5, 0, 0, 2, 0, 0, 5);
    }

    // ---- 21

    @Says(promise = 21, value = "The HEAP and the OTHER one change places (CLAIMS are 0 then):"
            + " how many ROWS the HEAP has.")
    @Break(at = "public int swap(", from = "clearClaims();", to = "")
    @Break(at = "public int swap(", from = "return theHeap.size();", to = "return theOther.size();")
    @Break(at = "public int swap(", from = "return theHeap.size();", to = "theDraft.clear(); return theHeap.size();")
    @Break(at = "public int swap(", from = "quotientBase.forget(0);", to = "")
    @Break(at = "private void clearClaims(", from = "r < ROWS_AT_MOST", to = "r < theHeap.size()")
    static void p21noneAndSix() {
        HeapTower x = new HeapTower();
        due("none and none", x.swap(), 0);
        x = Bench.sixRows();
        for (int r = 0; r < 6; r++) {
            Bench.claim(x, r, 1, 0, 0, 0);
        }
        Bench.write(x, 3, 2, 0, 0);
        due("x x is in", x.quotient(0), 1);
        due("six and none", x.swap(), 0);
        Bench.draftIs("the draft stays", x, 3, 2, 0, 0);
        due("x x is not in", x.quotient(0), 0);
        due("rows", x.told(3), 0);
        due("rows of the other", x.told(4), 6);
        due("no row to copy", x.copy(0), NO);
        due("none and six", x.swap(), 6);
        due("claims were 0 then", x.sum(), 0);
        due("row 5", x.copy(5), 1);
        Bench.draftIs("z z", x, 1, 0, 0, 2);
        due("rows of the other", x.told(4), 0);
        Bench.claim(x, 0, 1, 0, 0, 0);
        due("six and none again", x.swap(), 0);
        Bench.row(x, 1, 1, 0, 0);
        due("claims were 0 then, for rows to come, too", x.sum(), 0);
    }

    // ---- 22

    @Says(promise = 22, value = "The dimension of the POLYNOMIALS of DEGREE d IN the HEAP (which 0), the OTHER one (1),"
            + " their SUM (2), SHARING (3), PRODUCT (4).")
    @Break(at = "public int dimension(", from = "return sumBaseUpTo(d).leadingCount(d);",
            to = "return Math.max(theHeap.baseUpTo(d).leadingCount(d), theOther.baseUpTo(d).leadingCount(d));")
    @Break(at = "public int dimension(", from = "return productBaseUpTo(d).leadingCount(d);",
            to = "return theHeap.baseUpTo(d).leadingCount(d) + theOther.baseUpTo(d).leadingCount(d)"
            + " - sumBaseUpTo(d).leadingCount(d);")
    @Break(at = "private Base productBaseUpTo(", from = "e <= d", to = "e <= d && e < TOP")
    @Break(at = "private void offerRowProducts(", from = "b < theOther.size()", to = "b < theOther.size() && b < 5")
    static void p22noneSixAndDegree10() {
        dimensionsOfNone();
        // By x^5 and y^5: all of one degree are in none, one, or both; in the product from degree 10 on.
        HeapTower x = powers(5, 5);
        for (int d = 0; d <= 10; d++) {
            int each = d < 5 ? 0 : (d - 4) * (d - 3) / 2;
            int both = d < 10 ? 0 : 1;
            dimensions("x^5 and y^5", x, d, each, each, 2 * each - both, both, both);
        }
        // By all of degree 2, twice: the product has all of degree 4.
        HeapTower six = Bench.sixRows();
        due("keep", six.keep(), 0);
        for (int d = 0; d <= 10; d++) {
            int all = (d + 1) * (d + 2) / 2;
            int each = d < 2 ? 0 : all;
            dimensions("six rows twice", six, d, each, each, each, each, d < 4 ? 0 : all);
        }
        // Six rows of which the last alone is asked for: y^3 of one heap times x of the other.
        HeapTower last = new HeapTower();
        for (int r = 0; r < 5; r++) {
            Bench.row(last, 1, 0, 0, 5);
        }
        Bench.row(last, 1, 0, 3, 0);
        due("keep", last.keep(), 0);
        while (last.told(3) > 0) {
            last.drop();
        }
        Bench.row(last, 1, 1, 0, 0);
        due("the last of six rows: product", last.dimension(4, 4), 1);
        due("the last of six rows: sum", last.dimension(2, 3), 7);
    }

    private static void dimensions(String what, HeapTower x, int d, int... five) {
        for (int which = 0; which < 5; which++) {
            due(what + ": dimension(" + which + ", " + d + ")", x.dimension(which, d), five[which]);
        }
    }

    private static void dimensionsOfNone() {
        HeapTower none = new HeapTower();
        HeapTower mine = powers(1, 0);
        HeapTower others = powers(0, 1);
        for (int d = 0; d <= 10; d++) {
            int all = d * (d + 1) / 2;
            dimensions("none and none", none, d, 0, 0, 0, 0, 0);
            dimensions("x and none", mine, d, all, 0, all, 0, 0);
            dimensions("none and y", others, d, 0, all, all, 0, 0);
        }
    }

    @Says(promise = 22, value = "NO: another which")
    @Break(at = "public int dimension(", from = "case 0:", to = "case -1: case 0:")
    @Break(at = "public int dimension(", from = "default:", to = "case 5: return 0; default:")
    static void p22anotherWhich() {
        int[] wrong = {-1, 5, 6, MIN, MAX};
        for (int which : wrong) {
            for (int d = 0; d <= 10; d++) {
                int degree = d;
                Bench.refused("dimension(" + which + ", " + d + ")", x -> x.dimension(which, degree));
            }
        }
    }

    @Says(promise = 22, value = "or d is not 0..10")
    @Break(at = "public int dimension(", from = "d < 0 ||", to = "d < -1 ||")
    @Break(at = "public int dimension(", from = "d < 0 ||", to = "d < 1 ||")
    @Break(at = "public int dimension(", from = "d > TOP", to = "d > TOP + 1")
    @Break(at = "public int dimension(", from = "d > TOP", to = "d >= TOP")
    static void p22degreesFrom0To10() {
        int[] wrong = {-1, 11, -2, 12, MIN, MAX};
        for (int d : wrong) {
            for (int which = -1; which <= 5; which++) {
                int asked = which;
                Bench.refused("dimension(" + which + ", " + d + ")", x -> x.dimension(asked, d));
            }
        }
        for (int which = 0; which < 5; which++) {
            due("dimension(" + which + ", 0)", Bench.busy().dimension(which, 0), 0);
            int[] want = {66, 64, 66, 64, 64};
            due("dimension(" + which + ", 10)", Bench.busy().dimension(which, 10), want[which]);
        }
    }

    // ---- 23

    @Says(promise = 23, value = "The least DEGREE up to 10 in which the HEAP and the OTHER one have not the same"
            + " POLYNOMIALS")
    @Break(at = "public int parts(", from = "least > ROW_TOP ? -1 : least", to = "least >= ROW_TOP ? -1 : least")
    @Break(at = "public int parts(", from = "Math.min(", to = "Math.max(")
    @Break(at = "private int leastOutside(", from = "d < least", to = "least > ROW_TOP")
    static void p23fromDegree1To5() {
        for (int a = 0; a <= 5; a++) {
            for (int b = 0; b <= 5; b++) {
                int want = a == 0 ? b : b == 0 ? a : Math.min(a, b);
                if (a + b > 0) {
                    due("x^" + a + " and y^" + b, powers(a, b).parts(), want);
                }
            }
        }
        // The row of the lesser degree comes last.
        HeapTower x = new HeapTower();
        Bench.row(x, 1, 5, 0, 0);
        Bench.row(x, 1, 0, 3, 0);
        due("x^5, y^3 and none", x.parts(), 3);
        due("swap", x.swap(), 0);
        due("none and x^5, y^3", x.parts(), 3);
        // All of degree 1 to 4 are the same.
        HeapTower y = new HeapTower();
        Bench.row(y, 1, 4, 0, 0);
        due("keep", y.keep(), 0);
        Bench.row(y, 1, 0, 5, 0);
        due("x^4, y^5 and x^4", y.parts(), 5);
    }

    @Says(promise = 23, value = "-1 if there is none")
    @Break(at = "public int parts(", from = "least > ROW_TOP ? -1 : least", to = "least")
    @Break(at = "private int leastOutside(", from = "&& !products.isZero(d, work)", to = "")
    @Break(at = "public int parts(", from = "theOther.baseUpTo(ROW_TOP)", to = "theOther.baseUpTo(ROW_TOP - 1)")
    @Break(at = "public int parts(", from = "theHeap.baseUpTo(ROW_TOP)", to = "theHeap.baseUpTo(ROW_TOP - 1)")
    static void p23theSame() {
        due("none and none", new HeapTower().parts(), -1);
        HeapTower x = Bench.sixRows();
        x.keep();
        due("six rows twice", x.parts(), -1);
        HeapTower five = new HeapTower();
        Bench.row(five, 1, 5, 0, 0, 2, 0, 0, 5);
        five.keep();
        due("one of degree 5 twice", five.parts(), -1);
        HeapTower y = new HeapTower();
        Bench.row(y, 1, 1, 0, 0);
        Bench.row(y, 1, 0, 1, 0);
        y.keep();
        y.drop();
        y.drop();
        Bench.row(y, 1, 1, 0, 0, 1, 0, 1, 0);
        Bench.row(y, 3, 1, 0, 0, 1, 0, 1, 0);
        Bench.row(y, 3, 4, 1, 0, 1, 0, 2, 3);
        due("by other rows, and more of them", y.parts(), -1);
        HeapTower z = Bench.busy();
        z.drop();
        due("after a drop", z.parts(), -1);
    }

    // ---- 24

    @Says(promise = 24, value = "THE DRAFT is the CLAIM for a ROW; it is 0 then: 1.")
    @Break(at = "public int claim(", from = "theDraft.clear();", to = "")
    @Break(at = "public int claim(", from = "return 1;", to = "return row;")
    @Break(at = "void become(Polynomial", from = "from.held, 0, held, 0, ALL", to = "from.held, 0, held, 0, FIRST[9]")
    static void p24theFirstTheLastAndNought() {
        HeapTower x = new HeapTower();
        Bench.row(x, 1, 1, 0, 0);
        Bench.row(x, 1, 0, 1, 0);
        Bench.write(x, 2, 0, 0, 9, 3, 0, 0, 0);
        due("for row 0", x.claim(0), 1);
        due("the draft then", x.draft(0), 0);
        Bench.write(x, 4, 9, 0, 0);
        due("for row 1", x.claim(1), 1);
        due("sum", x.sum(), 3);
        Bench.draftIs("sum", x, 2, 1, 0, 9, 3, 1, 0, 0, 4, 9, 1, 0);
        Bench.write(x, 1, 0, 0, 0);
        due("another one for row 0", x.claim(0), 1);
        due("sum", x.sum(), 2);
        Bench.draftIs("it is not added to the one before", x, 1, 1, 0, 0, 4, 9, 1, 0);
        x.wipe();
        due("0 for row 1", x.claim(1), 1);
        due("sum", x.sum(), 1);
        Bench.draftIs("row 0 alone", x, 1, 1, 0, 0);
    }

    @Says(promise = 24, value = "NO: there is no such ROW")
    @Break(at = "public int claim(", from = "!theHeap.has(row)", to = "row >= ROWS_AT_MOST")
    @Break(at = "boolean has(", from = "r < size", to = "r <= size")
    @Break(at = "boolean has(", from = "r < size", to = "r < size - 1")
    static void p24noSuchRow() {
        int[] wrong = {-1, 3, 4, 5, 6, MIN, MAX};
        for (int r : wrong) {
            Bench.refused("claim(" + r + ")", x -> x.claim(r));
            Bench.refused("claim(" + r + ") of 0", () -> Bench.busyWith(), x -> x.claim(r));
        }
        Bench.refused("of no rows", HeapTower::new, x -> x.claim(0));
        Bench.refused("row 6 of six", Bench::sixRows, x -> x.claim(6));
        due("row 2 of three", Bench.busy().claim(2), 1);
        due("row 5 of six", Bench.sixRows().claim(5), 1);
    }

    @Says(promise = 24, value = "its DEGREE and that of the ROW are above 10 together")
    @Break(at = "public int claim(", from = "theHeap.degreeOf(row) > TOP", to = "theHeap.degreeOf(row) > TOP + 1")
    @Break(at = "public int claim(", from = "theHeap.degreeOf(row) > TOP", to = "theHeap.degreeOf(row) >= TOP")
    @Break(at = "public int claim(", from = "theDraft.degree() + theHeap", to = "theDraft.size() + theHeap")
    static void p24togetherUpTo10() {
        for (int degree = 1; degree <= 5; degree++) {
            int own = degree;
            HeapTower x = new HeapTower();
            Bench.row(x, 1, degree, 0, 0);
            Bench.write(x, 1, 10 - degree, 0, 0, 1, 0, 0, 0);
            due("10 together", x.claim(0), 1);
            due("sum", x.sum(), 2);
            due("of degree", x.draft(1), 10);
            Bench.refused("11 together", () -> {
                HeapTower y = new HeapTower();
                Bench.row(y, 1, own, 0, 0);
                Bench.claim(y, 0, 3, 0, 0, 0);
                Bench.write(y, 1, 11 - own, 0, 0, 1, 0, 0, 0);
                return y;
            }, y -> y.claim(0));
        }
        Bench.refused("a draft of degree 10", () -> Bench.busyWith(1, 0, 0, 10, 1, 0, 0, 0), x -> x.claim(1));
    }

    // ---- 25

    @Says(promise = 25, value = "THE DRAFT becomes the sum of all CLAIMS times their ROWS: how many PRODUCTS it has.")
    @Break(at = "public int sum(", from = "theDraft.clear();", to = "")
    @Break(at = "public int sum(", from = "r < theHeap.size()", to = "r < theHeap.size() && r < 5")
    @Break(at = "public int sum(", from = "return theDraft.size();", to = "return theHeap.size();")
    @Break(at = "private void addClaimTimesRow(", from = "d + rowDegree <= TOP", to = "d + rowDegree < TOP")
    @Break(at = "private void addClaimTimesRow(", from = "int d = 0;", to = "int d = 1;")
    static void p25noneSixAndNought() {
        HeapTower x = new HeapTower();
        Bench.write(x, 1, 1, 0, 0, 1, 0, 0, 0);
        due("of no rows", x.sum(), 0);
        due("the draft is 0", x.draft(1), -1);
        x = Bench.sixRows();
        Bench.write(x, 1, 0, 0, 0);
        due("of no claims", x.sum(), 0);
        due("the draft is 0", x.draft(1), -1);
        for (int r = 0; r < 6; r++) {
            Bench.claim(x, r, r + 1, 0, 0, 8, 1, 0, 0, 0);
        }
        due("of six claims", x.sum(), 12);
        Bench.draftIs("of six claims", x, 1, 2, 0, 8, 2, 1, 1, 8, 3, 0, 2, 8, 4, 1, 0, 9, 5, 0, 1, 9, 6, 0, 0, 10,
                1, 2, 0, 0, 1, 1, 1, 0, 1, 0, 2, 0, 1, 1, 0, 1, 1, 0, 1, 1, 1, 0, 0, 2);
        due("claims stay", x.sum(), 12);
        HeapTower y = Bench.of(3, 97);
        Bench.row(y, 96, 1, 0, 0);
        Bench.row(y, 96, 0, 1, 0);
        Bench.claim(y, 0, 96, 0, 1, 0);
        Bench.claim(y, 1, 1, 1, 0, 0);
        due("that comes to 0", y.sum(), 0);
        due("the draft is 0", y.draft(1), -1);
    }

    // ---- 26

    @Says(promise = 26, value = "How many: 0 LETTERS, 1 P, 2 the ORDER, 3 ROWS, 4 ROWS of the OTHER HEAP.")
    @Break(at = "public int told(", from = "return theHeap.size();", to = "return theOther.size();")
    @Break(at = "public int told(", from = "return theOther.size();", to = "return theHeap.size();")
    @Break(at = "public int told(", from = "return numbers.prime();", to = "return 11;")
    static void p26theLeastAndTheMost() {
        toldAre("at first", new HeapTower(), 3, 7, 0, 0, 0);
        toldAre("a busy one", Bench.busy(), 3, 11, 1, 3, 2);
        toldAre("the least", Bench.of(1, 2), 1, 2, 0, 0, 0);
        HeapTower x = Bench.of(3, 97);
        x.order(1);
        for (int r = 0; r < 6; r++) {
            Bench.row(x, 1, 1, 0, 0);
        }
        toldAre("six and none", x, 3, 97, 1, 6, 0);
        x.swap();
        toldAre("none and six", x, 3, 97, 1, 0, 6);
    }

    private static void toldAre(String what, HeapTower x, int... five) {
        for (int i = 0; i < 5; i++) {
            due(what + ": told(" + i + ")", x.told(i), five[i]);
        }
    }

    @Says(promise = 26, value = "NO: another what.")
    @Break(at = "public int told(", from = "case 0:", to = "case -1: case 0:")
    @Break(at = "public int told(", from = "default:", to = "case 5: return 0; default:")
    static void p26anotherWhat() {
        int[] wrong = {-1, 5, 6, MIN, MAX};
        for (int what : wrong) {
            Bench.refused("told(" + what + ")", x -> x.told(what));
        }
    }
}
