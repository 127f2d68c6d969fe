import java.util.Arrays;

/**
 * A bench for heaps of polynomials in few letters. The words HEAP, ROW, DRAFT, REST, BASE and
 * their like are those of the document.
 */
public final class HeapTower {
    public static final int NO = -1000000;

    private static final int TOP = 10;
    private static final int LETTERS_AT_MOST = 3;
    private static final int ROWS_AT_MOST = 6;
    private static final int ROW_TOP = 5;
    private static final int PRIME_TOP = 97;

    /** How many products three letters have of degree 10, and of degree 5. */
    private static final int PLACES = 66;
    private static final int ROW_PLACES = 21;

    /** How many products three letters have of degree 10 at most. */
    private static final int ALL = 286;

    /** How many products three letters have below each degree. */
    private static final int[] FIRST = {0, 1, 4, 10, 20, 35, 56, 84, 120, 165, 220, 286};

    /** What the greatest socle asks for: products of degree 7, and of the degree above it. */
    private static final int SOCLE_PLACES = 36;
    private static final int SOCLE_IMAGES = 45;

    private final Products products;
    private final Numbers numbers;
    private final Rows scratchRows;
    /**
     * A part for the call at hand: the numbers of one degree, each at its product's place. Only
     * the places of that degree are looked at. Heaps that build their base leave it as it is.
     */
    private final int[] work;
    private final int[][] socleImages;
    private final Polynomial theDraft;
    private final Polynomial[] claims;
    private final Base sumBase;
    private final Base productBase;
    private final Base quotientBase;
    private Heap theHeap;
    private Heap theOther;

    public HeapTower() {
        products = new Products();
        numbers = new Numbers();
        scratchRows = new Rows(products, numbers);
        work = new int[PLACES];
        socleImages = new int[SOCLE_IMAGES][SOCLE_PLACES];
        theDraft = new Polynomial(products);
        claims = new Polynomial[ROWS_AT_MOST];
        for (int r = 0; r < ROWS_AT_MOST; r++) {
            claims[r] = new Polynomial(products);
        }
        int[] baseWork = new int[PLACES];
        sumBase = new Base(products, numbers, scratchRows, baseWork);
        productBase = new Base(products, numbers, scratchRows, baseWork);
        quotientBase = new Base(products, numbers, scratchRows, baseWork);
        theHeap = new Heap(new Base(products, numbers, scratchRows, baseWork), baseWork);
        theOther = new Heap(new Base(products, numbers, scratchRows, baseWork), baseWork);
    }

    // ---- numbers, letters, the draft

    public int letters(int n, int p) {
        if (n < 1 || n > LETTERS_AT_MOST || !Numbers.isPrime(p)) {
            return NO;
        }
        numbers.setPrime(p);
        products.arrange(n, products.orderNow());
        theHeap.empty();
        theOther.empty();
        clearClaims();
        theDraft.clear();
        forgetAllBases();
        return 1;
    }

    public int order(int order) {
        if (order != 0 && order != 1) {
            return NO;
        }
        int before = products.orderNow();
        if (order != before) {
            products.arrange(products.letterCount(), order);
            forgetAllBases();
        }
        return before;
    }

    public int term(int c, int x, int y, int z) {
        if (!isProduct(x, y, z)) {
            return NO;
        }
        int degree = x + y + z;
        int place = Products.place(y, z);
        int now = numbers.modulo(theDraft.numberAt(degree, place) + numbers.modulo(c));
        theDraft.setNumber(degree, place, now);
        draftChanged();
        return now;
    }

    public int number(int x, int y, int z) {
        return isProduct(x, y, z) ? theDraft.numberAt(x + y + z, Products.place(y, z)) : NO;
    }

    public int wipe() {
        int had = theDraft.size();
        theDraft.clear();
        draftChanged();
        return had;
    }

    public int draft(int what) {
        switch (what) {
            case 0:
                return theDraft.size();
            case 1:
                return theDraft.degree();
            case 2:
                return theDraft.isEven() ? 1 : 0;
            case 3:
                return headOfDraft();
            default:
                return NO;
        }
    }

    public int times(int x, int y, int z) {
        if (!isProduct(x, y, z) || theDraft.degree() + x + y + z > TOP) {
            return NO;
        }
        theDraft.moveUp(x + y + z, Products.place(y, z));
        draftChanged();
        return theDraft.size();
    }

    // ---- the heap

    public int row() {
        int degree = theDraft.degree();
        if (!theDraft.isEven() || degree < 1 || degree > ROW_TOP || theHeap.isFull()) {
            return NO;
        }
        int r = theHeap.size();
        theHeap.append(theDraft, degree);
        theDraft.clear();
        heapChanged(degree);
        return r;
    }

    public int drop() {
        if (theHeap.size() == 0) {
            return NO;
        }
        int r = theHeap.size() - 1;
        int degree = theHeap.degreeOf(r);
        theHeap.removeLatest();
        claims[r].clear();
        heapChanged(degree);
        return r;
    }

    public int copy(int row) {
        if (!theHeap.has(row)) {
            return NO;
        }
        theHeap.load(row, work);
        theDraft.clear();
        theDraft.setPart(theHeap.degreeOf(row), work);
        draftChanged();
        return theDraft.size();
    }

    public int rest() {
        int degree = theDraft.degree();
        Base base = theHeap.baseUpTo(degree);
        for (int d = 0; d <= degree; d++) {
            if (loadRestOfDraft(base, d)) {
                theDraft.setPart(d, work);
            }
        }
        draftChanged();
        return theDraft.size();
    }

    public int in() {
        int degree = theDraft.degree();
        Base base = theHeap.baseUpTo(degree);
        for (int d = 0; d <= degree; d++) {
            if (loadRestOfDraft(base, d) && !products.isZero(d, work)) {
                return 0;
            }
        }
        return 1;
    }

    public int base(int d) {
        return d >= 1 && d <= TOP ? theHeap.baseUpTo(d).sizeUpTo(d) : NO;
    }

    public int element(int k) {
        Base all = theHeap.baseUpTo(TOP);
        if (k < 0 || k >= all.sizeUpTo(TOP)) {
            return NO;
        }
        all.loadElement(k, work);
        theDraft.clear();
        theDraft.setPart(all.degreeOf(k), work);
        draftChanged();
        return theDraft.size();
    }

    public int count(int d) {
        return d >= 0 && d <= TOP ? theHeap.baseUpTo(d).standardCount(d) : NO;
    }

    public int free(int i, int j) {
        if (i < 0 || i > LETTERS_AT_MOST || j < 0 || j > TOP) {
            return NO;
        }
        if (i > products.letterCount()) {
            return 0;
        }
        Base base = theHeap.baseUpTo(j);
        switch (i) {
            case 0:
                return freeAtGround(j);
            case 1:
                return base.neededRows(j);
            case 2:
                return freeAtSecond(base, j);
            default:
                return freeAtThird(base, j);
        }
    }

    // ---- quotients, two heaps

    public int quotient(int d) {
        int degree = theDraft.degree();
        if (!theDraft.isEven() || degree < 0 || d < 0 || d > TOP - degree) {
            return NO;
        }
        int e = d + degree;
        return products.amount(d) - theHeap.baseUpTo(e).standardCount(e)
                + quotientBaseUpTo(e, degree).standardCount(e);
    }

    public int regular() {
        int degree = theDraft.degree();
        if (!theDraft.isEven() || degree < 0) {
            return NO;
        }
        for (int e = degree; e <= TOP; e++) {
            Base base = theHeap.baseUpTo(e);
            int image = base.standardCount(e) - quotientBaseUpTo(e, degree).standardCount(e);
            if (image != base.standardCount(e - degree)) {
                return 0;
            }
        }
        return 1;
    }

    public int keep() {
        int before = theOther.size();
        theOther.become(theHeap);
        sumBase.forget(0);
        productBase.forget(0);
        return before;
    }

    public int swap() {
        Heap before = theHeap;
        theHeap = theOther;
        theOther = before;
        clearClaims();
        // Sum and product are the same from both sides: their bases stay.
        quotientBase.forget(0);
        return theHeap.size();
    }

    public int dimension(int which, int d) {
        if (d < 0 || d > TOP) {
            return NO;
        }
        switch (which) {
            case 0:
                return theHeap.baseUpTo(d).leadingCount(d);
            case 1:
                return theOther.baseUpTo(d).leadingCount(d);
            case 2:
                return sumBaseUpTo(d).leadingCount(d);
            case 3:
                return theHeap.baseUpTo(d).leadingCount(d) + theOther.baseUpTo(d).leadingCount(d)
                        - sumBaseUpTo(d).leadingCount(d);
            case 4:
                return productBaseUpTo(d).leadingCount(d);
            default:
                return NO;
        }
    }

    public int parts() {
        // Below the least degree in which a row of one is not in the other they are the same.
        int least = Math.min(leastOutside(theHeap, theOther.baseUpTo(ROW_TOP)),
                leastOutside(theOther, theHeap.baseUpTo(ROW_TOP)));
        return least > ROW_TOP ? -1 : least;
    }

    // ---- claims

    public int claim(int row) {
        if (!theHeap.has(row) || theDraft.degree() + theHeap.degreeOf(row) > TOP) {
            return NO;
        }
        claims[row].become(theDraft);
        theDraft.clear();
        draftChanged();
        return 1;
    }

    public int sum() {
        theDraft.clear();
        for (int r = 0; r < theHeap.size(); r++) {
            addClaimTimesRow(r);
        }
        draftChanged();
        return theDraft.size();
    }

    public int told(int what) {
        switch (what) {
            case 0:
                return products.letterCount();
            case 1:
                return numbers.prime();
            case 2:
                return products.orderNow();
            case 3:
                return theHeap.size();
            case 4:
                return theOther.size();
            default:
                return NO;
        }
    }

    // ---- what has changed

    private void draftChanged() {
        quotientBase.forget(0);
    }

    private void heapChanged(int degree) {
        sumBase.forget(degree);
        productBase.forget(degree);
        quotientBase.forget(0);
    }

    private void forgetAllBases() {
        theHeap.forgetBase();
        theOther.forgetBase();
        sumBase.forget(0);
        productBase.forget(0);
        quotientBase.forget(0);
    }

    private void clearClaims() {
        for (int r = 0; r < ROWS_AT_MOST; r++) {
            claims[r].clear();
        }
    }

    // ---- the draft

    private boolean isProduct(int x, int y, int z) {
        int n = products.letterCount();
        if (x < 0 || y < 0 || z < 0 || n < 2 && y != 0 || n < 3 && z != 0) {
            return false;
        }
        // Each alone first: their sum could wrap around.
        return x <= TOP && y <= TOP && z <= TOP && x + y + z <= TOP;
    }

    private int headOfDraft() {
        int degree = theDraft.degree();
        int place = theDraft.headPlace();
        if (degree < 0 || place < 0) {
            return -1;
        }
        return 10000 * products.power(degree, place, 0) + 100 * products.power(degree, place, 1)
                + products.power(degree, place, 2);
    }

    /** Puts the rest of the draft's part of a degree into work; false if that part is 0. */
    private boolean loadRestOfDraft(Base base, int d) {
        theDraft.loadPart(d, work);
        if (products.isZero(d, work)) {
            return false;
        }
        base.reduce(d, work);
        return true;
    }

    private void addClaimTimesRow(int r) {
        int rowDegree = theHeap.degreeOf(r);
        theHeap.load(r, work);
        for (int d = 0; d + rowDegree <= TOP; d++) {
            for (int i = 0; i < products.amount(d); i++) {
                int place = products.at(d, i);
                int c = claims[r].numberAt(d, place);
                if (c != 0) {
                    addWorkToDraft(rowDegree, d, place, c);
                }
            }
        }
    }

    /** Adds c times the product of a degree and place times what work has of rowDegree. */
    private void addWorkToDraft(int rowDegree, int degree, int place, int c) {
        for (int i = 0; i < products.amount(rowDegree); i++) {
            int from = products.at(rowDegree, i);
            if (work[from] != 0) {
                int to = products.together(from, place);
                int before = theDraft.numberAt(rowDegree + degree, to);
                theDraft.setNumber(rowDegree + degree, to, numbers.modulo(before + c * work[from]));
            }
        }
    }

    // ---- bases

    private Base sumBaseUpTo(int d) {
        for (int e = sumBase.reached() + 1; e <= d; e++) {
            sumBase.open(e);
            theHeap.offerRows(sumBase, e);
            theOther.offerRows(sumBase, e);
            sumBase.close(e);
        }
        return sumBase;
    }

    private Base productBaseUpTo(int d) {
        for (int e = productBase.reached() + 1; e <= d; e++) {
            productBase.open(e);
            offerRowProducts(e);
            productBase.close(e);
        }
        return productBase;
    }

    private void offerRowProducts(int e) {
        for (int a = 0; a < theHeap.size(); a++) {
            for (int b = 0; b < theOther.size(); b++) {
                if (theHeap.degreeOf(a) + theOther.degreeOf(b) == e) {
                    loadRowProduct(a, b);
                    productBase.offer(e, work);
                }
            }
        }
    }

    private void loadRowProduct(int a, int b) {
        int[] left = theHeap.numbersOf(a);
        int[] right = theOther.numbersOf(b);
        int prime = numbers.prime();
        Arrays.fill(work, 0);
        for (int i = 0; i < products.amount(theHeap.degreeOf(a)); i++) {
            int here = products.at(theHeap.degreeOf(a), i);
            if (left[here] == 0) {
                continue;
            }
            for (int j = 0; j < products.amount(theOther.degreeOf(b)); j++) {
                int there = products.at(theOther.degreeOf(b), j);
                int to = products.together(here, there);
                work[to] = (work[to] + left[here] * right[there]) % prime;
            }
        }
    }

    // The draft times polynomials of degree d makes, by the heap, as many dimensions as fewer
    // products of its degree and d are standard by the heap with the draft as one row more.

    /** The base of the heap with the draft, of this degree, as one row more. */
    private Base quotientBaseUpTo(int d, int degree) {
        for (int e = quotientBase.reached() + 1; e <= d; e++) {
            quotientBase.open(e);
            theHeap.offerRows(quotientBase, e);
            if (e == degree) {
                theDraft.loadPart(e, work);
                quotientBase.offer(e, work);
            }
            quotientBase.close(e);
        }
        return quotientBase;
    }

    /** The least degree of a row that rests by the base of another heap; above 5 if none. */
    private int leastOutside(Heap heap, Base base) {
        int least = ROW_TOP + 1;
        for (int r = 0; r < heap.size(); r++) {
            int d = heap.degreeOf(r);
            heap.load(r, work);
            base.reduce(d, work);
            if (d < least && !products.isZero(d, work)) {
                least = d;
            }
        }
        return least;
    }

    // ---- free ones

    // Floor 1 has the rows that are needed, the last floor has what every letter takes into the
    // heap. They tell floor 2: with changing signs, the free ones of a degree and the chains of
    // it have the same sum, as the rank of each step is taken away from two neighbours.

    private int freeAtGround(int j) {
        return j == 0 ? 1 : 0;
    }

    private int freeAtSecond(Base base, int j) {
        int n = products.letterCount();
        int top = n == LETTERS_AT_MOST ? freeAtThird(base, j) : 0;
        return signedChains(base, n, j) - freeAtGround(j) + base.neededRows(j) + top;
    }

    private int signedChains(Base base, int n, int j) {
        int all = 0;
        int sets = 1;
        for (int i = 0; i <= n && i <= j; i++) {
            all += (i % 2 == 0 ? sets : -sets) * base.standardCount(j - i);
            sets = sets * (n - i) / (i + 1);
        }
        return all;
    }

    /** The dimension of the standard polynomials that every letter takes into the heap. */
    private int freeAtThird(Base base, int j) {
        int d = j - LETTERS_AT_MOST;
        if (d < 0) {
            return 0;
        }
        int standard = base.standardCount(d);
        scratchRows.begin(d);
        for (int l = 0; l < LETTERS_AT_MOST && scratchRows.size() < standard; l++) {
            loadImages(base, d, l);
            for (int i = 0; i < products.amount(d + 1) && scratchRows.size() < standard; i++) {
                scratchRows.add(socleImages[products.at(d + 1, i)]);
            }
        }
        return standard - scratchRows.size();
    }

    /** Row t, number s of the images: the number of t in the rest of the letter times s. */
    private void loadImages(Base base, int d, int letter) {
        for (int i = 0; i < products.amount(d); i++) {
            int from = products.at(d, i);
            Arrays.fill(work, 0);
            if (base.isStandard(d, from)) {
                work[products.raised(from, letter)] = 1;
                base.reduce(d + 1, work);
            }
            for (int t = 0; t < products.amount(d + 1); t++) {
                int to = products.at(d + 1, t);
                socleImages[to][from] = work[to];
            }
        }
    }

    /** The numbers modulo a prime. */
    private static final class Numbers {
        private final int[] inverses = new int[PRIME_TOP];
        private int prime;

        Numbers() {
            setPrime(7);
        }

        static boolean isPrime(int p) {
            if (p < 2 || p > PRIME_TOP) {
                return false;
            }
            for (int q = 2; q * q <= p; q++) {
                if (p % q == 0) {
                    return false;
                }
            }
            return true;
        }

        void setPrime(int p) {
            prime = p;
            inverses[1] = 1;
            for (int a = 2; a < p; a++) {
                inverses[a] = (p - p / a) * inverses[p % a] % p;
            }
        }

        int prime() {
            return prime;
        }

        int modulo(int c) {
            return Math.floorMod(c, prime);
        }

        int inverse(int a) {
            return inverses[a];
        }
    }

    /**
     * The products of the letters that there are. A product of a degree has a place that its
     * powers of letters 1 and 2 tell: so a place times letter 0 stays, and places that are put
     * together have the same place in every degree.
     */
    private static final class Products {
        private final int[] second = new int[PLACES];
        private final int[] third = new int[PLACES];
        private final int[] line = new int[ALL];
        private final int[] amounts = new int[TOP + 1];
        private int letterCount;
        private int orderNow;

        Products() {
            for (int s = 0; s <= TOP; s++) {
                for (int z = 0; z <= s; z++) {
                    second[place(s - z, z)] = s - z;
                    third[place(s - z, z)] = z;
                }
            }
            arrange(LETTERS_AT_MOST, 0);
        }

        static int place(int y, int z) {
            return (y + z) * (y + z + 1) / 2 + z;
        }

        /** Lines up the places of each degree, the greatest product first. */
        void arrange(int n, int order) {
            letterCount = n;
            orderNow = order;
            for (int d = 0; d <= TOP; d++) {
                amounts[d] = order == 0 ? lineByLast(d) : lineByFirst(d);
            }
        }

        private int lineByLast(int d) {
            int i = 0;
            for (int z = 0; z <= (letterCount > 2 ? d : 0); z++) {
                for (int y = 0; y <= (letterCount > 1 ? d - z : 0); y++) {
                    line[FIRST[d] + i] = place(y, z);
                    i++;
                }
            }
            return i;
        }

        private int lineByFirst(int d) {
            int i = 0;
            for (int s = 0; s <= (letterCount > 1 ? d : 0); s++) {
                for (int z = 0; z <= (letterCount > 2 ? s : 0); z++) {
                    line[FIRST[d] + i] = place(s - z, z);
                    i++;
                }
            }
            return i;
        }

        int letterCount() {
            return letterCount;
        }

        int orderNow() {
            return orderNow;
        }

        int amount(int d) {
            return amounts[d];
        }

        int at(int d, int i) {
            return line[FIRST[d] + i];
        }

        int power(int d, int place, int letter) {
            if (letter == 0) {
                return d - second[place] - third[place];
            }
            return letter == 1 ? second[place] : third[place];
        }

        int together(int a, int b) {
            return place(second[a] + second[b], third[a] + third[b]);
        }

        int raised(int place, int letter) {
            return place(second[place] + (letter == 1 ? 1 : 0), third[place] + (letter == 2 ? 1 : 0));
        }

        /** The letter divides the product of this place. */
        int lowered(int place, int letter) {
            return place(second[place] - (letter == 1 ? 1 : 0), third[place] - (letter == 2 ? 1 : 0));
        }

        boolean isZero(int d, int[] part) {
            for (int i = 0; i < amounts[d]; i++) {
                if (part[at(d, i)] != 0) {
                    return false;
                }
            }
            return true;
        }
    }

    /** A polynomial of degree 10 at most. */
    private static final class Polynomial {
        private final Products products;
        private final int[] held = new int[ALL];

        Polynomial(Products products) {
            this.products = products;
        }

        void clear() {
            Arrays.fill(held, 0);
        }

        void become(Polynomial from) {
            System.arraycopy(from.held, 0, held, 0, ALL);
        }

        int numberAt(int d, int place) {
            return held[FIRST[d] + place];
        }

        void setNumber(int d, int place, int c) {
            held[FIRST[d] + place] = c;
        }

        int size() {
            int many = 0;
            for (int i = 0; i < ALL; i++) {
                many += held[i] != 0 ? 1 : 0;
            }
            return many;
        }

        int degree() {
            int d = TOP;
            while (d >= 0 && sizeOf(d) == 0) {
                d--;
            }
            return d;
        }

        boolean isEven() {
            int d = degree();
            return d < 0 || sizeOf(d) == size();
        }

        private int sizeOf(int d) {
            int many = 0;
            for (int i = FIRST[d]; i < FIRST[d + 1]; i++) {
                many += held[i] != 0 ? 1 : 0;
            }
            return many;
        }

        /** The place of the head; -1 of 0. */
        int headPlace() {
            int d = degree();
            for (int i = 0; d >= 0 && i < products.amount(d); i++) {
                if (numberAt(d, products.at(d, i)) != 0) {
                    return products.at(d, i);
                }
            }
            return -1;
        }

        void loadPart(int d, int[] into) {
            int first = FIRST[d];
            System.arraycopy(held, first, into, 0, FIRST[d + 1] - first);
        }

        void setPart(int d, int[] from) {
            int first = FIRST[d];
            System.arraycopy(from, 0, held, first, FIRST[d + 1] - first);
        }

        /** Becomes that times a product; its degree stays 10 at most. */
        void moveUp(int degree, int place) {
            // From the top down: what a degree had is gone only after it was moved.
            for (int d = TOP; degree > 0 && d >= 0; d--) {
                Arrays.fill(held, FIRST[d], FIRST[d + 1], 0);
                if (d >= degree) {
                    movePartUp(d - degree, d, place);
                }
            }
        }

        private void movePartUp(int from, int to, int place) {
            for (int i = 0; i < products.amount(from); i++) {
                int here = products.at(from, i);
                setNumber(to, products.together(here, place), numberAt(from, here));
            }
        }
    }

    /**
     * Independent rows of polynomials of one degree, each with number 1 at its head and 0 at the
     * heads of the others.
     */
    private static final class Rows {
        private final Products products;
        private final Numbers numbers;
        private final int[][] rows = new int[PLACES][PLACES];
        private final int[] rowOfHead = new int[PLACES];
        private final int[] line = new int[PLACES];
        private int amount;
        private int prime;
        private int size;

        Rows(Products products, Numbers numbers) {
            this.products = products;
            this.numbers = numbers;
        }

        void begin(int d) {
            amount = products.amount(d);
            for (int i = 0; i < amount; i++) {
                line[i] = products.at(d, i);
            }
            prime = numbers.prime();
            size = 0;
            Arrays.fill(rowOfHead, -1);
        }

        int size() {
            return size;
        }

        boolean hasHead(int place) {
            return rowOfHead[place] >= 0;
        }

        int numberAt(int head, int place) {
            return rowOfHead[head] < 0 ? 0 : rows[rowOfHead[head]][place];
        }

        /** Takes a row in, which is used up; false if it hangs on those that are here. */
        boolean add(int[] row) {
            int head = -1;
            for (int i = 0; i < amount; i++) {
                int place = line[i];
                if (row[place] != 0 && rowOfHead[place] >= 0) {
                    subtract(row, row[place], rows[rowOfHead[place]]);
                } else if (row[place] != 0 && head < 0) {
                    head = place;
                }
            }
            if (head < 0 || size >= PLACES) {
                return false;
            }
            int inverse = numbers.inverse(row[head]);
            int[] taken = rows[size];
            for (int i = 0; i < amount; i++) {
                taken[line[i]] = row[line[i]] * inverse % prime;
            }
            for (int r = 0; r < size; r++) {
                subtract(rows[r], rows[r][head], taken);
            }
            rowOfHead[head] = size;
            size++;
            return true;
        }

        private void subtract(int[] row, int c, int[] other) {
            for (int i = 0; c != 0 && i < amount; i++) {
                int place = line[i];
                if (other[place] != 0) {
                    row[place] = (row[place] + (prime - c) * other[place]) % prime;
                }
            }
        }
    }

    /**
     * The base of a heap, built degree by degree: open(d), an offer of each row of degree d,
     * close(d). The rows themselves are not held here, so that sums and products of heaps, of
     * which there may be many more rows, are built in the same way.
     */
    private static final class Base {
        /**
         * No head divides another, and each product times letter 2, again and again, makes a
         * chain that ends in degree 10: so there are at most 66 elements. K elements of a degree
         * with N products have at most N - K + 1 products each; over all degrees, with 66
         * elements in all, that comes to less than 2,500.
         */
        private static final int TERMS = 2560;

        /** A term is a number and a place in one int: half the room of two arrays. */
        private static final int PLACE_BITS = 7;
        private static final int PLACE_MASK = 127;

        private final Products products;
        private final Numbers numbers;
        private final Rows fresh;
        private final int[] work;
        private final int[] starts = new int[PLACES + 1];
        private final int[] degrees = new int[PLACES];
        private final int[] sizes = new int[TOP + 1];
        private final int[] standard = new int[TOP + 1];
        private final int[] needed = new int[TOP + 1];
        // These two are made when the base is first built: few runs ask for all five bases, and a
        // run may make many objects.
        private int[] terms = new int[0];
        /** Of each product 1 and the number of an element whose head divides it, 0 if none. */
        private int[] leaders = new int[0];
        private int reached = -1;
        private int size;

        Base(Products products, Numbers numbers, Rows fresh, int[] work) {
            this.products = products;
            this.numbers = numbers;
            this.fresh = fresh;
            this.work = work;
        }

        /** The degree up to which the base is built; -1 at first. */
        int reached() {
            return reached;
        }

        /** What is of this degree or above is to be built anew. */
        void forget(int d) {
            if (reached >= d) {
                reached = Math.max(d, 0) - 1;
                size = reached < 0 ? 0 : sizes[reached];
            }
        }

        int sizeUpTo(int d) {
            return sizes[d];
        }

        int standardCount(int d) {
            return standard[d];
        }

        int leadingCount(int d) {
            return products.amount(d) - standard[d];
        }

        boolean isStandard(int d, int place) {
            return leaders[FIRST[d] + place] == 0;
        }

        /** How many rows of degree d are not in the heap of what is before them. */
        int neededRows(int d) {
            return needed[d];
        }

        int degreeOf(int k) {
            return degrees[k];
        }

        void loadElement(int k, int[] into) {
            Arrays.fill(into, 0);
            for (int t = starts[k]; t < starts[k + 1]; t++) {
                into[terms[t] & PLACE_MASK] = terms[t] >> PLACE_BITS;
            }
        }

        void open(int d) {
            makeRoom();
            fresh.begin(d);
            needed[d] = 0;
            inherit(d);
            offerDifferences(d);
        }

        private void makeRoom() {
            if (terms.length == 0) {
                terms = new int[TERMS];
                leaders = new int[ALL];
            }
        }

        void offer(int d, int[] row) {
            reduce(d, row);
            if (fresh.add(row)) {
                needed[d]++;
            }
        }

        void close(int d) {
            int leading = 0;
            for (int i = products.amount(d) - 1; i >= 0; i--) {
                if (fresh.hasHead(products.at(d, i))) {
                    append(d, i);
                }
                leading += isStandard(d, products.at(d, i)) ? 0 : 1;
            }
            standard[d] = products.amount(d) - leading;
            sizes[d] = size;
            reached = d;
        }

        /** A part of degree d becomes its rest. */
        void reduce(int d, int[] part) {
            for (int i = 0; i < products.amount(d); i++) {
                int place = products.at(d, i);
                int leader = part[place] == 0 ? 0 : leaders[FIRST[d] + place];
                if (leader > 0) {
                    addMoved(part, leader - 1, place, numbers.prime() - part[place]);
                }
            }
        }

        /** Adds c times element k, times the product that takes its head to a place. */
        private void addMoved(int[] part, int k, int place, int c) {
            int prime = numbers.prime;
            int[] second = products.second;
            int[] third = products.third;
            int head = terms[starts[k]] & PLACE_MASK;
            int y = second[place] - second[head];
            int z = third[place] - third[head];
            for (int t = starts[k]; t < starts[k + 1]; t++) {
                // As Products.place has it: most of all work is done in this loop.
                int from = terms[t] & PLACE_MASK;
                int last = third[from] + z;
                int both = second[from] + y + last;
                int to = both * (both + 1) / 2 + last;
                part[to] = (part[to] + c * (terms[t] >> PLACE_BITS)) % prime;
            }
        }

        private void inherit(int d) {
            for (int i = 0; i < products.amount(d); i++) {
                int place = products.at(d, i);
                int leader = 0;
                for (int l = 0; l < LETTERS_AT_MOST && leader == 0; l++) {
                    leader = leaderBelow(d, place, l);
                }
                leaders[FIRST[d] + place] = leader;
            }
        }

        /** The leader of a product without one letter; 0 if it has none, or not this letter. */
        private int leaderBelow(int d, int place, int letter) {
            if (d == 0 || products.power(d, place, letter) == 0) {
                return 0;
            }
            return leaders[FIRST[d - 1] + products.lowered(place, letter)];
        }

        // What is in the heap of degree d is made by letters times what is in it of degree d - 1,
        // and by rows. Where two such have one head, their difference may have a head that no
        // element leads to yet.
        private void offerDifferences(int d) {
            for (int i = 0; size > 1 && i < products.amount(d); i++) {
                int place = products.at(d, i);
                int leader = leaders[FIRST[d] + place];
                int latest = leader;
                for (int l = 1; l < LETTERS_AT_MOST && leader > 0; l++) {
                    int below = leaderBelow(d, place, l);
                    if (below > 0 && below != leader && below != latest
                            && isNews(d, place, leader - 1, below - 1)) {
                        offerMoved(d, place, below - 1);
                        latest = below;
                    }
                }
            }
        }

        /**
         * Two elements tell nothing new at a product if it isn't the least that both heads divide
         * (then their difference was seen in a lesser degree), or if the heads share no letter.
         */
        private boolean isNews(int d, int place, int a, int b) {
            int headOfA = terms[starts[a]] & PLACE_MASK;
            int headOfB = terms[starts[b]] & PLACE_MASK;
            boolean share = false;
            for (int l = 0; l < LETTERS_AT_MOST; l++) {
                int ofA = products.power(degrees[a], headOfA, l);
                int ofB = products.power(degrees[b], headOfB, l);
                if (Math.max(ofA, ofB) != products.power(d, place, l)) {
                    return false;
                }
                share = share || Math.min(ofA, ofB) > 0;
            }
            return share;
        }

        /** Offers element k, moved up to a place; its rest is that of the difference. */
        private void offerMoved(int d, int place, int k) {
            Arrays.fill(work, 0);
            addMoved(work, k, place, 1);
            reduce(d, work);
            fresh.add(work);
        }

        /** Appends the fresh row whose head stands at number i of the line of degree d. */
        private void append(int d, int i) {
            if (size >= PLACES || starts[size] + products.amount(d) - i > TERMS) {
                return;
            }
            int head = products.at(d, i);
            int end = starts[size];
            for (int j = i; j < products.amount(d); j++) {
                int place = products.at(d, j);
                int c = fresh.numberAt(head, place);
                if (c != 0) {
                    terms[end] = c << PLACE_BITS | place;
                    end++;
                }
            }
            degrees[size] = d;
            size++;
            starts[size] = end;
            leaders[FIRST[d] + head] = size;
        }
    }

    /** Rows, and their base as far as it was asked for. */
    private static final class Heap {
        private final Base base;
        private final int[] work;
        private final int[] degrees = new int[ROWS_AT_MOST];
        private final int[][] rows = new int[ROWS_AT_MOST][ROW_PLACES];
        private int size;

        Heap(Base base, int[] work) {
            this.base = base;
            this.work = work;
        }

        int size() {
            return size;
        }

        boolean isFull() {
            return size >= ROWS_AT_MOST;
        }

        boolean has(int r) {
            return r >= 0 && r < size;
        }

        int degreeOf(int r) {
            return degrees[r];
        }

        int[] numbersOf(int r) {
            return rows[r];
        }

        void empty() {
            size = 0;
            forgetBase();
        }

        void forgetBase() {
            base.forget(0);
        }

        void append(Polynomial row, int degree) {
            row.loadPart(degree, rows[size]);
            degrees[size] = degree;
            size++;
            base.forget(degree);
        }

        void removeLatest() {
            size--;
            base.forget(degrees[size]);
        }

        void become(Heap from) {
            for (int r = 0; r < from.size; r++) {
                System.arraycopy(from.rows[r], 0, rows[r], 0, ROW_PLACES);
                degrees[r] = from.degrees[r];
            }
            size = from.size;
            forgetBase();
        }

        void load(int r, int[] into) {
            System.arraycopy(rows[r], 0, into, 0, ROW_PLACES);
        }

        void offerRows(Base to, int d) {
            for (int r = 0; r < size; r++) {
                if (degrees[r] == d) {
                    load(r, work);
                    to.offer(d, work);
                }
            }
        }

        Base baseUpTo(int d) {
            for (int e = base.reached() + 1; e <= d; e++) {
                base.open(e);
                offerRows(base, e);
                base.close(e);
            }
            return base;
        }
    }
}
