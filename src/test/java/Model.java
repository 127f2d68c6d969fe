import java.util.ArrayList;
import java.util.Arrays;
import java.util.List;

/**
 * The document's words again, in the plainest way and with nothing shared with HeapTower: every
 * answer comes from whole matrices of one degree, FREE from its chains.
 */
final class Model {
    static final int NO = -1000000;
    private static final int SIDE = 11;

    private int n = 3;
    private int p = 7;
    private int order = 0;
    private int[] draft = zero();
    private List<int[]> heap = new ArrayList<>();
    private List<int[]> other = new ArrayList<>();
    private List<int[]> claims = new ArrayList<>();
    private final int[][][] heapCache = new int[SIDE][][];
    private final int[][][] otherCache = new int[SIDE][][];
    private final int[][] lines = new int[SIDE][];

    // ---- products are coded as 121 x + 11 y + z, so that codes add when products multiply

    private static int[] zero() {
        return new int[SIDE * SIDE * SIDE];
    }

    private static int code(int x, int y, int z) {
        return (x * SIDE + y) * SIDE + z;
    }

    private static int[] powers(int code) {
        return new int[] {code / (SIDE * SIDE), code / SIDE % SIDE, code % SIDE};
    }

    private static int degree(int code) {
        int[] w = powers(code);
        return w[0] + w[1] + w[2];
    }

    private static int letter(int l) {
        return l == 0 ? SIDE * SIDE : l == 1 ? SIDE : 1;
    }

    /** The document's GREATER, of one degree. */
    private boolean greater(int a, int b) {
        int[] u = powers(a);
        int[] v = powers(b);
        if (order == 0) {
            for (int l = 2; l >= 0; l--) {
                if (u[l] != v[l]) {
                    return u[l] < v[l];
                }
            }
        } else {
            for (int l = 0; l < 3; l++) {
                if (u[l] != v[l]) {
                    return u[l] > v[l];
                }
            }
        }
        return false;
    }

    private int[] products(int d) {
        if (lines[d] == null) {
            lines[d] = lineUp(d);
        }
        return lines[d];
    }

    /** All products of a degree, greatest first. */
    private int[] lineUp(int d) {
        List<Integer> list = new ArrayList<>();
        for (int c = 0; c < SIDE * SIDE * SIDE; c++) {
            int[] w = powers(c);
            if (degree(c) == d && (n > 1 || w[1] == 0) && (n > 2 || w[2] == 0)) {
                list.add(c);
            }
        }
        list.sort((a, b) -> a.equals(b) ? 0 : greater(a, b) ? -1 : 1);
        return list.stream().mapToInt(Integer::intValue).toArray();
    }

    // ---- matrices

    private int inverse(int a) {
        for (int b = 1; b < p; b++) {
            if (a * b % p == 1) {
                return b;
            }
        }
        throw new IllegalStateException("no inverse of " + a);
    }

    /** The reduced rows of a matrix, without those that are 0. */
    private int[][] reduced(List<int[]> given) {
        List<int[]> m = new ArrayList<>();
        for (int[] r : given) {
            m.add(r.clone());
        }
        int done = 0;
        int width = m.isEmpty() ? 0 : m.get(0).length;
        for (int c = 0; c < width; c++) {
            int r = done;
            while (r < m.size() && m.get(r)[c] == 0) {
                r++;
            }
            if (r == m.size()) {
                continue;
            }
            int[] pivot = m.get(r);
            m.set(r, m.get(done));
            m.set(done, pivot);
            int inv = inverse(pivot[c]);
            for (int k = 0; k < width; k++) {
                pivot[k] = pivot[k] * inv % p;
            }
            for (int q = 0; q < m.size(); q++) {
                int f = m.get(q)[c];
                if (q != done && f != 0) {
                    int[] row = m.get(q);
                    for (int k = 0; k < width; k++) {
                        row[k] = Math.floorMod(row[k] - f * pivot[k], p);
                    }
                }
            }
            done++;
        }
        return m.subList(0, done).toArray(new int[0][]);
    }

    private int rank(List<int[]> m) {
        return reduced(m).length;
    }

    // ---- polynomials

    private int[] vector(int[] f, int d) {
        int[] columns = products(d);
        int[] v = new int[columns.length];
        for (int i = 0; i < v.length; i++) {
            v[i] = f[columns[i]];
        }
        return v;
    }

    private int[] polynomial(int[] v, int d) {
        int[] columns = products(d);
        int[] f = zero();
        for (int i = 0; i < v.length; i++) {
            f[columns[i]] = v[i];
        }
        return f;
    }

    private int[] product(int[] f, int[] g) {
        int[] out = zero();
        for (int a = 0; a < f.length; a++) {
            for (int b = 0; f[a] != 0 && b < g.length; b++) {
                if (g[b] != 0) {
                    out[a + b] = (out[a + b] + f[a] * g[b]) % p;
                }
            }
        }
        return out;
    }

    private static int[] single(int code) {
        int[] f = zero();
        f[code] = 1;
        return f;
    }

    private static int size(int[] f) {
        int many = 0;
        for (int c : f) {
            many += c == 0 ? 0 : 1;
        }
        return many;
    }

    private static int top(int[] f) {
        int d = -1;
        for (int c = 0; c < f.length; c++) {
            d = f[c] == 0 ? d : Math.max(d, degree(c));
        }
        return d;
    }

    private static boolean even(int[] f) {
        for (int c = 0; c < f.length; c++) {
            if (f[c] != 0 && degree(c) != top(f)) {
                return false;
            }
        }
        return true;
    }

    // ---- heaps

    private int[][] space(List<int[]> rows, int d) {
        List<int[]> all = new ArrayList<>();
        for (int[] f : rows) {
            if (top(f) <= d) {
                for (int m : products(d - top(f))) {
                    all.add(vector(product(single(m), f), d));
                }
            }
        }
        return reduced(all);
    }

    private int[][] heapSpace(int d) {
        if (heapCache[d] == null) {
            heapCache[d] = space(heap, d);
        }
        return heapCache[d];
    }

    private int[][] otherSpace(int d) {
        if (otherCache[d] == null) {
            otherCache[d] = space(other, d);
        }
        return otherCache[d];
    }

    private void changed() {
        Arrays.fill(heapCache, null);
        Arrays.fill(otherCache, null);
        Arrays.fill(lines, null);
    }

    private static int pivot(int[] row) {
        int i = 0;
        while (row[i] == 0) {
            i++;
        }
        return i;
    }

    private boolean[] leading(int d) {
        boolean[] is = new boolean[products(d).length];
        for (int[] row : heapSpace(d)) {
            is[pivot(row)] = true;
        }
        return is;
    }

    private int[] restVector(int[] v, int d) {
        int[] out = v.clone();
        for (int[] row : heapSpace(d)) {
            int f = out[pivot(row)];
            for (int k = 0; f != 0 && k < out.length; k++) {
                out[k] = Math.floorMod(out[k] - f * row[k], p);
            }
        }
        return out;
    }

    private int[] restOf(int[] f) {
        int[] out = zero();
        for (int d = 0; d < SIDE; d++) {
            int[] part = polynomial(restVector(vector(f, d), d), d);
            for (int c = 0; c < out.length; c++) {
                out[c] += part[c];
            }
        }
        return out;
    }

    private List<int[]> baseOf(int d) {
        List<Integer> heads = new ArrayList<>();
        List<int[]> out = new ArrayList<>();
        for (int e = 0; e <= d; e++) {
            int[] columns = products(e);
            boolean[] is = leading(e);
            List<Integer> here = new ArrayList<>();
            for (int i = columns.length - 1; i >= 0; i--) {
                boolean least = is[i];
                for (int h : heads) {
                    int[] u = powers(h);
                    int[] v = powers(columns[i]);
                    least = least && !(u[0] <= v[0] && u[1] <= v[1] && u[2] <= v[2]);
                }
                if (least) {
                    here.add(columns[i]);
                    int[] f = single(columns[i]);
                    int[] rest = restOf(f);
                    for (int c = 0; c < f.length; c++) {
                        f[c] = Math.floorMod(f[c] - rest[c], p);
                    }
                    out.add(f);
                }
            }
            heads.addAll(here);
        }
        return out;
    }

    private int standard(int d) {
        return d < 0 ? 0 : products(d).length - heapSpace(d).length;
    }

    // ---- chains

    private List<Integer> sets(int i) {
        List<Integer> out = new ArrayList<>();
        for (int s = 0; s < 1 << n; s++) {
            if (Integer.bitCount(s) == i) {
                out.add(s);
            }
        }
        return out;
    }

    /** The rank of the step from the chains of i and j. */
    private int stepRank(int i, int j) {
        if (i < 1 || i > n || j - i < 0) {
            return 0;
        }
        int e = j - i;
        int[] from = products(e);
        int[] to = products(e + 1);
        boolean[] is = leading(e);
        List<Integer> targets = sets(i - 1);
        List<int[]> matrix = new ArrayList<>();
        for (int s : sets(i)) {
            for (int k = 0; k < from.length; k++) {
                if (!is[k]) {
                    int[] row = new int[targets.size() * to.length];
                    for (int l = 0; l < n; l++) {
                        if ((s >> l & 1) == 1) {
                            int t = s & ~(1 << l);
                            int sign = Integer.bitCount(t & (1 << l) - 1) % 2 == 0 ? 1 : p - 1;
                            int[] image = restVector(vector(single(from[k] + letter(l)), e + 1), e + 1);
                            for (int q = 0; q < to.length; q++) {
                                row[targets.indexOf(t) * to.length + q] = sign * image[q] % p;
                            }
                        }
                    }
                    matrix.add(row);
                }
            }
        }
        return rank(matrix);
    }

    // ---- the calls

    int letters(int newN, int newP) {
        if (newN < 1 || newN > 3 || !java.math.BigInteger.valueOf(newP).isProbablePrime(50)
                || newP < 2 || newP > 97) {
            return NO;
        }
        n = newN;
        p = newP;
        draft = zero();
        heap = new ArrayList<>();
        other = new ArrayList<>();
        claims = new ArrayList<>();
        changed();
        return 1;
    }

    int order(int now) {
        if (now < 0 || now > 1) {
            return NO;
        }
        int before = order;
        order = now;
        changed();
        return before;
    }

    private boolean wrong(int x, int y, int z) {
        return x < 0 || y < 0 || z < 0 || n < 2 && y != 0 || n < 3 && z != 0 || (long) x + y + z > 10;
    }

    int term(int c, int x, int y, int z) {
        if (wrong(x, y, z)) {
            return NO;
        }
        draft[code(x, y, z)] = (int) Math.floorMod((long) draft[code(x, y, z)] + c, (long) p);
        return draft[code(x, y, z)];
    }

    int number(int x, int y, int z) {
        return wrong(x, y, z) ? NO : draft[code(x, y, z)];
    }

    int wipe() {
        int had = size(draft);
        draft = zero();
        return had;
    }

    int draft(int what) {
        if (what == 0) {
            return size(draft);
        }
        if (what == 1) {
            return top(draft);
        }
        if (what == 2) {
            return even(draft) ? 1 : 0;
        }
        if (what != 3) {
            return NO;
        }
        if (top(draft) < 0) {
            return -1;
        }
        for (int c : products(top(draft))) {
            if (draft[c] != 0) {
                int[] w = powers(c);
                return 10000 * w[0] + 100 * w[1] + w[2];
            }
        }
        throw new IllegalStateException("no head");
    }

    int times(int x, int y, int z) {
        if (wrong(x, y, z) || top(draft) + x + y + z > 10) {
            return NO;
        }
        draft = product(draft, single(code(x, y, z)));
        return size(draft);
    }

    int row() {
        if (!even(draft) || top(draft) < 1 || top(draft) > 5 || heap.size() == 6) {
            return NO;
        }
        heap.add(draft);
        claims.add(zero());
        draft = zero();
        changed();
        return heap.size() - 1;
    }

    int drop() {
        if (heap.isEmpty()) {
            return NO;
        }
        heap.remove(heap.size() - 1);
        claims.remove(claims.size() - 1);
        changed();
        return heap.size();
    }

    int copy(int row) {
        if (row < 0 || row >= heap.size()) {
            return NO;
        }
        draft = heap.get(row).clone();
        return size(draft);
    }

    int rest() {
        draft = restOf(draft);
        return size(draft);
    }

    int in() {
        return size(restOf(draft)) == 0 ? 1 : 0;
    }

    int base(int d) {
        return d < 1 || d > 10 ? NO : baseOf(d).size();
    }

    int element(int k) {
        List<int[]> all = baseOf(10);
        if (k < 0 || k >= all.size()) {
            return NO;
        }
        draft = all.get(k);
        return size(draft);
    }

    int count(int d) {
        return d < 0 || d > 10 ? NO : standard(d);
    }

    int free(int i, int j) {
        if (i < 0 || i > 3 || j < 0 || j > 10) {
            return NO;
        }
        if (i > n) {
            return 0;
        }
        return sets(i).size() * standard(j - i) - stepRank(i, j) - stepRank(i + 1, j);
    }

    int quotient(int d) {
        if (!even(draft) || top(draft) < 0 || d < 0 || (long) d + top(draft) > 10) {
            return NO;
        }
        int e = d + top(draft);
        List<int[]> images = new ArrayList<>();
        for (int q : products(d)) {
            images.add(restVector(vector(product(single(q), draft), e), e));
        }
        return images.size() - rank(images);
    }

    int regular() {
        if (!even(draft) || top(draft) < 0) {
            return NO;
        }
        for (int d = 0; d + top(draft) <= 10; d++) {
            if (quotient(d) != heapSpace(d).length) {
                return 0;
            }
        }
        return 1;
    }

    int keep() {
        int before = other.size();
        other = new ArrayList<>(heap);
        changed();
        return before;
    }

    int swap() {
        List<int[]> before = heap;
        heap = other;
        other = before;
        claims = new ArrayList<>();
        for (int i = 0; i < heap.size(); i++) {
            claims.add(zero());
        }
        changed();
        return heap.size();
    }

    int dimension(int which, int d) {
        if (which < 0 || which > 4 || d < 0 || d > 10) {
            return NO;
        }
        int[][] mine = heapSpace(d);
        int[][] others = otherSpace(d);
        if (which < 2) {
            return which == 0 ? mine.length : others.length;
        }
        List<int[]> both = new ArrayList<>(Arrays.asList(mine));
        if (which == 2) {
            both.addAll(Arrays.asList(others));
            return rank(both);
        }
        return which == 3 ? sharing(mine, others) : productDimension(d);
    }

    /** Rows (a, a) and (b, 0): those whose left half is 0 have what both share on the right. */
    private int sharing(int[][] mine, int[][] others) {
        List<int[]> doubled = new ArrayList<>();
        for (int[] a : mine) {
            int[] row = Arrays.copyOf(a, 2 * a.length);
            System.arraycopy(a, 0, row, a.length, a.length);
            doubled.add(row);
        }
        for (int[] b : others) {
            doubled.add(Arrays.copyOf(b, 2 * b.length));
        }
        int shared = 0;
        for (int[] row : reduced(doubled)) {
            shared += pivot(row) >= row.length / 2 ? 1 : 0;
        }
        return shared;
    }

    private int productDimension(int d) {
        List<int[]> all = new ArrayList<>();
        for (int a = 0; a <= d; a++) {
            for (int[] f : heapSpace(a)) {
                for (int[] g : otherSpace(d - a)) {
                    all.add(vector(product(polynomial(f, a), polynomial(g, d - a)), d));
                    if (all.size() > 150) {
                        all = new ArrayList<>(Arrays.asList(reduced(all)));
                    }
                }
            }
        }
        return rank(all);
    }

    int parts() {
        for (int d = 0; d <= 10; d++) {
            if (!Arrays.deepEquals(heapSpace(d), otherSpace(d))) {
                return d;
            }
        }
        return -1;
    }

    int claim(int row) {
        if (row < 0 || row >= heap.size() || top(draft) + top(heap.get(row)) > 10) {
            return NO;
        }
        claims.set(row, draft);
        draft = zero();
        return 1;
    }

    int sum() {
        draft = zero();
        for (int r = 0; r < heap.size(); r++) {
            int[] f = product(claims.get(r), heap.get(r));
            for (int c = 0; c < f.length; c++) {
                draft[c] = (draft[c] + f[c]) % p;
            }
        }
        return size(draft);
    }

    int told(int what) {
        int[] all = {n, p, order, heap.size(), other.size()};
        return what < 0 || what > 4 ? NO : all[what];
    }

    /** A mark of the draft, told apart from any other draft's. */
    String draftText() {
        StringBuilder out = new StringBuilder();
        for (int d = 0; d <= 10; d++) {
            for (int x = d; x >= 0; x--) {
                for (int y = d - x; y >= 0; y--) {
                    out.append(draft[code(x, y, d - x - y)]).append(' ');
                }
            }
        }
        return out.toString();
    }
}
