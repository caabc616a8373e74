import java.math.BigInteger;
import java.util.ArrayList;
import java.util.Arrays;
import java.util.BitSet;
import java.util.HashMap;
import java.util.List;
import java.util.Map;

/**
 * A second reading of the whole document, slow and for small primes alone: what belongs to what is
 * looked for among all there is in a SmallWorld, and an inverse is made of subdeterminants.
 */
final class PlainRows {
    private static final int NONE = Check.NONE, BAD = Check.BAD, FULL = Check.FULL;
    private static final int POINT = 0, LINE = 1, PLANE = 2, MAP = 3, QUADRIC = 4;
    private static final int GREATEST_PRIME = 7;
    private static final Map<Integer, SmallWorld> WORLDS = new HashMap<>();

    private SmallWorld world;
    private int n;
    private int p;
    private final long[] hand = new long[16];
    private final List<Integer> sorts = new ArrayList<>();
    private final List<long[]> rows = new ArrayList<>();
    private final List<Integer> gathered = new ArrayList<>();
    private final List<Integer> pairFrom = new ArrayList<>();
    private final List<Integer> pairTo = new ArrayList<>();
    private int ideal;

    PlainRows() {
        begin(2, 3);
    }

    static SmallWorld worldOf(int n, int p) {
        return WORLDS.computeIfAbsent(10 * n + p, k -> new SmallWorld(n, p));
    }

    int count() {
        return rows.size();
    }

    /** Of an object that there is. */
    long[] row(int a) {
        return rows.get(a);
    }

    int begin(int dimension, int prime) {
        boolean isOddPrime = prime > 2 && BigInteger.valueOf(prime).isProbablePrime(60);
        if (dimension != 2 && dimension != 3 || !isOddPrime) {
            return BAD;
        }
        if (prime > GREATEST_PRIME) {
            throw new IllegalStateException("no world is made for " + prime);
        }
        n = dimension;
        p = prime;
        world = worldOf(n, p);
        Arrays.fill(hand, 0);
        sorts.clear();
        rows.clear();
        gathered.clear();
        pairFrom.clear();
        pairTo.clear();
        ideal = NONE;
        return 1;
    }

    int put(int i, long v) {
        if (i < 0 || i > 15) {
            return BAD;
        }
        hand[i] = Math.floorMod(v, (long) p);
        return (int) hand[i];
    }

    int make(int sort) {
        if (sort < POINT || sort > QUADRIC || sort == PLANE && n == 2) {
            return BAD;
        }
        int numbers = sort >= MAP ? (n + 1) * (n + 1) : sort == LINE && n == 3 ? 6 : n + 1;
        long[] row = Arrays.copyOf(hand, numbers);
        if (world.isZero(row)) {
            return NONE;
        }
        boolean isOne;
        if (sort == MAP) {
            isOne = world.rankOfSquare(row) == n + 1;
        } else if (sort == QUADRIC) {
            isOne = SmallWorld.key(row).equals(SmallWorld.key(turned(row)));
        } else {
            isOne = world.setOf(sort, world.normal(row)) != null;
        }
        return isOne ? keep(sort, row) : NONE;
    }

    /** NONE of what is not there, or all 0. */
    private int keep(int sort, long[] row) {
        if (row == null || world.isZero(row)) {
            return NONE;
        }
        long[] normal = world.normal(row);
        for (int a = 0; a < rows.size(); a++) {
            if (sorts.get(a) == sort && SmallWorld.key(rows.get(a)).equals(SmallWorld.key(normal))) {
                return a;
            }
        }
        if (rows.size() == 60) {
            return FULL;
        }
        sorts.add(sort);
        rows.add(normal);
        return rows.size() - 1;
    }

    int number(int a, int i) {
        boolean isThere = sort(a) != BAD && i >= 0 && i < rows.get(a).length;
        return isThere ? (int) rows.get(a)[i] : BAD;
    }

    int sort(int a) {
        return a < 0 || a >= rows.size() ? BAD : sorts.get(a);
    }

    private boolean areSorts(int a, int sortA, int b, int sortB) {
        return sort(a) == sortA && sort(b) == sortB || sort(a) == sortB && sort(b) == sortA;
    }

    /** The points that are on a point, line, plane or quadric. */
    private BitSet setOf(int a) {
        return sort(a) == QUADRIC
            ? world.setOfQuadric(rows.get(a)) : world.setOf(sort(a), rows.get(a));
    }

    int join(int a, int b) {
        if (areSorts(a, POINT, b, POINT)) {
            return keep(LINE, world.onlyAround(LINE, SmallWorld.united(setOf(a), setOf(b))));
        }
        if (n == 3 && (areSorts(a, POINT, b, LINE) || areSorts(a, LINE, b, LINE))) {
            return keep(PLANE, world.onlyAround(PLANE, SmallWorld.united(setOf(a), setOf(b))));
        }
        return BAD;
    }

    int meet(int a, int b) {
        if (areSorts(a, PLANE, b, PLANE)) {
            return keep(LINE, world.onlyWithin(LINE, SmallWorld.shared(setOf(a), setOf(b))));
        }
        if (areSorts(a, LINE, b, LINE) || areSorts(a, LINE, b, PLANE)) {
            return keep(POINT, world.onlyWithin(POINT, SmallWorld.shared(setOf(a), setOf(b))));
        }
        return BAD;
    }

    int on(int a, int b) {
        if (n == 3 && areSorts(a, LINE, b, LINE)) {
            return setOf(a).intersects(setOf(b)) ? 1 : 0;
        }
        if (areSorts(a, POINT, b, LINE) || areSorts(a, POINT, b, PLANE)
            || areSorts(a, POINT, b, QUADRIC) || areSorts(a, LINE, b, PLANE)) {
            int lesser = sort(a) < sort(b) ? a : b;
            return SmallWorld.isWithin(setOf(lesser), setOf(a + b - lesser)) ? 1 : 0;
        }
        return BAD;
    }

    private boolean haveRatios(int... which) {
        int sort = sort(which[0]);
        for (int a : which) {
            if (sort(a) != sort || sort != POINT && sort != n - 1) {
                return false;
            }
        }
        return true;
    }

    long cross(int a, int b, int c, int d) {
        if (!haveRatios(a, b, c, d)) {
            return BAD;
        }
        return world.crossRatio(rows.get(a), rows.get(b), rows.get(c), rows.get(d));
    }

    int fourth(int a, int b, int c, long v) {
        if (!haveRatios(a, b, c) || v < 0 || v > p) {
            return BAD;
        }
        return keep(sort(a), world.fourth(sort(a), rows.get(a), rows.get(b), rows.get(c), v));
    }

    int pair(int a, int b) {
        if (sort(a) != POINT || sort(b) != POINT) {
            return BAD;
        }
        if (pairFrom.size() == n + 2) {
            return FULL;
        }
        pairFrom.add(a);
        pairTo.add(b);
        return pairFrom.size();
    }

    int map() {
        long[][] from = rowsOf(pairFrom);
        long[][] to = rowsOf(pairTo);
        if (from.length != n + 2 || !world.isFrame(from) || !world.isFrame(to)) {
            return NONE;
        }
        int made = keep(MAP, product(ofFrame(to), inverse(ofFrame(from))));
        if (made >= 0) {
            pairFrom.clear();
            pairTo.clear();
        }
        return made;
    }

    private long[][] rowsOf(List<Integer> which) {
        long[][] found = new long[which.size()][];
        for (int k = 0; k < found.length; k++) {
            found[k] = rows.get(which.get(k));
        }
        return found;
    }

    /** Columns that are multiples of the first points and whose sum is the last one. */
    private long[] ofFrame(long[][] points) {
        int width = n + 1;
        int codes = (int) Math.round(Math.pow(p, width));
        for (int code = 0; code < codes; code++) {
            long[] square = new long[width * width];
            long[] sum = new long[width];
            int left = code;
            for (int j = 0; j < width; j++) {
                for (int i = 0; i < width; i++) {
                    square[i * width + j] = left % p * points[j][i] % p;
                    sum[i] = (sum[i] + square[i * width + j]) % p;
                }
                left /= p;
            }
            if (SmallWorld.key(sum).equals(SmallWorld.key(points[width]))) {
                return square;
            }
        }
        throw new IllegalStateException("no frame");
    }

    private long[] turned(long[] square) {
        int width = n + 1;
        long[] result = new long[square.length];
        for (int k = 0; k < square.length; k++) {
            result[k % width * width + k / width] = square[k];
        }
        return result;
    }

    private long[] product(long[] a, long[] b) {
        int width = n + 1;
        long[] result = new long[a.length];
        for (int k = 0; k < a.length; k++) {
            for (int i = 0; i < width; i++) {
                result[k] += a[k / width * width + i] * b[i * width + k % width];
            }
            result[k] %= p;
        }
        return result;
    }

    /** A multiple of the inverse. */
    private long[] inverse(long[] square) {
        int width = n + 1;
        long[] result = new long[square.length];
        for (int k = 0; k < square.length; k++) {
            int line = k / width;
            int column = k % width;
            long sign = (line + column) % 2 == 0 ? 1 : -1;
            long rest = determinant(square, width, 1 << line, 1 << column);
            result[column * width + line] = Math.floorMod(sign * rest, (long) p);
        }
        return result;
    }

    /** Of what is left of a square without these lines and columns. */
    private static long determinant(long[] square, int width, int lines, int columns) {
        int line = Integer.numberOfTrailingZeros(~lines);
        if (line >= width) {
            return 1;
        }
        long sum = 0;
        long sign = 1;
        for (int column = 0; column < width; column++) {
            if ((columns >> column & 1) == 0) {
                sum += sign * square[line * width + column]
                    * determinant(square, width, lines | 1 << line, columns | 1 << column);
                sign = -sign;
            }
        }
        return sum;
    }

    int apply(int m, int a) {
        if (sort(m) != MAP || sort(a) == BAD) {
            return BAD;
        }
        long[] there = rows.get(m);
        long[] back = inverse(there);
        if (sort(a) == MAP) {
            return keep(MAP, product(product(there, rows.get(a)), back));
        }
        if (sort(a) == QUADRIC) {
            return keep(QUADRIC, product(product(turned(back), rows.get(a)), back));
        }
        BitSet moved = world.imageOfSet(there, setOf(a));
        return keep(sort(a), world.onlyAround(sort(a), moved));
    }

    int compose(int a, int b) {
        boolean areMaps = sort(a) == MAP && sort(b) == MAP;
        return areMaps ? keep(MAP, product(rows.get(a), rows.get(b))) : BAD;
    }

    int inverse(int m) {
        return sort(m) == MAP ? keep(MAP, inverse(rows.get(m))) : BAD;
    }

    int order(int m) {
        return sort(m) == MAP ? world.orderOf(rows.get(m)) : BAD;
    }

    int gather(int a) {
        if (sort(a) != POINT) {
            return BAD;
        }
        if (gathered.size() == 9) {
            return FULL;
        }
        gathered.add(a);
        return gathered.size();
    }

    int forget() {
        int were = gathered.size();
        gathered.clear();
        return were;
    }

    int quadric() {
        BitSet points = new BitSet();
        for (int a : gathered) {
            points.or(setOf(a));
        }
        // A point leaves one number less of the row free; with two free there are many.
        int numbers = (n + 1) * (n + 2) / 2;
        return points.cardinality() < numbers - 1 ? NONE : keep(QUADRIC, world.quadricOn(points));
    }

    int rank(int q) {
        return sort(q) == QUADRIC ? world.rankOfSquare(rows.get(q)) : BAD;
    }

    int polar(int q, int a) {
        if (sort(q) != QUADRIC || sort(a) != POINT && sort(a) != n - 1) {
            return BAD;
        }
        return sort(a) == POINT ? keep(n - 1, world.image(rows.get(q), rows.get(a)))
            : keep(POINT, world.pole(rows.get(q), rows.get(a)));
    }

    long touches(int q, int line) {
        boolean goTogether = sort(q) == QUADRIC && sort(line) == LINE;
        return goTogether ? world.common(rows.get(q), rows.get(line)).size() : BAD;
    }

    int common(int q, int line, int k) {
        if (sort(q) != QUADRIC || sort(line) != LINE || k < 0) {
            return BAD;
        }
        List<long[]> all = world.common(rows.get(q), rows.get(line));
        return k < all.size() ? keep(POINT, all.get(k)) : NONE;
    }

    int root(long v) {
        for (long r = 0; r < p; r++) {
            if (Math.floorMod(r * r - Math.floorMod(v, (long) p), (long) p) == 0) {
                return (int) r;
            }
        }
        return NONE;
    }

    int dual(int a) {
        int sort = sort(a);
        if (sort == BAD) {
            return BAD;
        }
        long[] row = rows.get(a);
        if (sort == POINT || sort == n - 1) {
            return keep(n - 1 - sort, row);
        }
        if (sort == LINE) {
            return keep(LINE, world.dualOfLine(row));
        }
        if (sort == MAP) {
            return keep(MAP, turned(inverse(row)));
        }
        return world.rankOfSquare(row) < n + 1 ? NONE : keep(QUADRIC, inverse(row));
    }

    int ideal(int a) {
        if (sort(a) != n - 1) {
            return BAD;
        }
        int was = ideal;
        ideal = a;
        return was;
    }

    int parallel(int a, int b) {
        boolean goTogether = areSorts(a, LINE, b, LINE) || areSorts(a, LINE, b, PLANE)
            || areSorts(a, PLANE, b, PLANE);
        if (!goTogether) {
            return BAD;
        }
        return ideal == NONE ? NONE
            : world.isParallel(sort(a), rows.get(a), sort(b), rows.get(b), setOf(ideal));
    }

    int middle(int a, int b) {
        if (sort(a) != POINT || sort(b) != POINT) {
            return BAD;
        }
        return ideal == NONE ? NONE
            : keep(POINT, world.middle(rows.get(a), rows.get(b), rows.get(ideal)));
    }

    int holds(int theorem) {
        if (n == 3 || theorem < 0 || theorem > 2) {
            return BAD;
        }
        return gathered.size() == 6 ? world.holds(theorem, rowsOf(gathered)) : NONE;
    }

    int told(int what) {
        int[] all = {n, p, rows.size(), gathered.size(), pairFrom.size(), ideal};
        return what < 0 || what >= all.length ? BAD : all[what];
    }
}
