import java.util.ArrayList;
import java.util.BitSet;
import java.util.HashMap;
import java.util.List;
import java.util.Map;

/**
 * All points, lines and planes of one dimension and a small prime, each known as the set of its
 * points. It shares no way of reckoning with the class that is tested: it looks through all there is.
 */
final class SmallWorld {
    final int n;
    final int p;
    final int width;
    final List<long[]> points = new ArrayList<>();
    /** By sort (POINT, LINE, PLANE): each row's text, and the set of its points. */
    final List<Map<String, BitSet>> sets = new ArrayList<>();
    final List<List<long[]>> rows = new ArrayList<>();
    private final Map<String, Integer> pointIndex = new HashMap<>();
    /** All quadrics, once they are asked for, and the sets of their points. */
    private final List<long[]> quadrics = new ArrayList<>();
    private final List<BitSet> quadricSets = new ArrayList<>();

    SmallWorld(int n, int p) {
        this.n = n;
        this.p = p;
        this.width = n + 1;
        for (int sort = 0; sort <= 2; sort++) {
            sets.add(new HashMap<>());
            rows.add(new ArrayList<>());
        }
        allPoints();
        allFlats();
        if (n == 3) {
            allLinesOfSpace();
        }
    }

    static String key(long[] row) {
        return java.util.Arrays.toString(row);
    }

    private void add(int sort, long[] row, BitSet set) {
        if (sets.get(sort).put(key(row), set) == null) {
            rows.get(sort).add(row);
        }
    }

    private void allPoints() {
        int all = 1;
        for (int i = 0; i < width; i++) {
            all *= p;
        }
        for (int code = 1; code < all; code++) {
            long[] row = new long[width];
            int left = code;
            for (int i = width - 1; i >= 0; i--) {
                row[i] = left % p;
                left /= p;
            }
            if (key(row).equals(key(normal(row)))) {
                BitSet one = new BitSet();
                one.set(points.size());
                pointIndex.put(key(row), points.size());
                points.add(row);
                add(Check.POINT, row, one);
            }
        }
    }

    private void allFlats() {
        for (long[] u : points) {
            BitSet set = new BitSet();
            for (int k = 0; k < points.size(); k++) {
                if (dot(u, points.get(k)) == 0) {
                    set.set(k);
                }
            }
            add(n - 1, u, set);
        }
    }

    private void allLinesOfSpace() {
        for (int a = 0; a < points.size(); a++) {
            for (int b = a + 1; b < points.size(); b++) {
                long[] row = normal(wedge(points.get(a), points.get(b)));
                BitSet set = lineSet(points.get(a), points.get(b));
                BitSet known = sets.get(Check.LINE).get(key(row));
                if (known != null && !known.equals(set)) {
                    throw new IllegalStateException("one row for two lines");
                }
                add(Check.LINE, row, set);
            }
        }
    }

    private BitSet lineSet(long[] x, long[] y) {
        BitSet set = new BitSet();
        set.set(indexOf(y));
        for (int t = 0; t < p; t++) {
            set.set(indexOf(plus(x, t, y)));
        }
        return set;
    }

    long[] plus(long[] x, long t, long[] y) {
        long[] sum = new long[x.length];
        for (int i = 0; i < x.length; i++) {
            sum[i] = (x[i] + t * y[i]) % p;
        }
        return sum;
    }

    int indexOf(long[] point) {
        return pointIndex.get(key(normal(point)));
    }

    /** Looks for the factor that makes the first number 1. */
    long[] normal(long[] row) {
        for (long v : row) {
            if (v != 0) {
                long factor = 1;
                while (factor * v % p != 1) {
                    factor++;
                }
                long[] result = new long[row.length];
                for (int i = 0; i < row.length; i++) {
                    result[i] = factor * row[i] % p;
                }
                return result;
            }
        }
        return row;
    }

    long dot(long[] x, long[] y) {
        long sum = 0;
        for (int i = 0; i < x.length; i++) {
            sum += x[i] * y[i];
        }
        return sum % p;
    }

    long minor(long[] x, long[] y, int i, int j) {
        return Math.floorMod(x[i] * y[j] - x[j] * y[i], (long) p);
    }

    long[] wedge(long[] x, long[] y) {
        if (width == 3) {
            return new long[] {minor(x, y, 0, 1), minor(x, y, 0, 2), minor(x, y, 1, 2)};
        }
        return new long[] {minor(x, y, 0, 1), minor(x, y, 0, 2), minor(x, y, 0, 3),
            minor(x, y, 1, 2), minor(x, y, 1, 3), minor(x, y, 2, 3)};
    }

    BitSet setOf(int sort, long[] row) {
        return sets.get(sort).get(key(row));
    }

    /** The row of the only object of a sort that has all these points; null if not just one. */
    long[] onlyAround(int sort, BitSet inside) {
        long[] found = null;
        for (long[] row : rows.get(sort)) {
            BitSet rest = (BitSet) inside.clone();
            rest.andNot(setOf(sort, row));
            if (rest.isEmpty()) {
                if (found != null) {
                    return null;
                }
                found = row;
            }
        }
        return found;
    }

    /** The row of the only object of a sort all of whose points are these; null if not just one. */
    long[] onlyWithin(int sort, BitSet outside) {
        long[] found = null;
        for (long[] row : rows.get(sort)) {
            BitSet rest = (BitSet) setOf(sort, row).clone();
            rest.andNot(outside);
            if (rest.isEmpty()) {
                if (found != null) {
                    return null;
                }
                found = row;
            }
        }
        return found;
    }

    long form(long[] square, long[] x, long[] y) {
        long sum = 0;
        for (int i = 0; i < width; i++) {
            for (int j = 0; j < width; j++) {
                sum += square[i * width + j] * x[i] % p * y[j];
            }
        }
        return sum % p;
    }

    long[] image(long[] square, long[] x) {
        long[] result = new long[width];
        for (int i = 0; i < width; i++) {
            for (int j = 0; j < width; j++) {
                result[i] += square[i * width + j] * x[j];
            }
            result[i] %= p;
        }
        return result;
    }

    boolean isZero(long[] row) {
        for (long v : row) {
            if (v != 0) {
                return false;
            }
        }
        return true;
    }

    /** p to the rank is how many different rows Q x there are. */
    int rankOfSquare(long[] square) {
        int nothing = 1;
        for (long[] x : points) {
            if (isZero(image(square, x))) {
                nothing += p - 1;
            }
        }
        int rank = width;
        for (int all = 1; all < nothing; all *= p) {
            rank--;
        }
        return rank;
    }

    /** The points to which a map takes a set. */
    BitSet imageOfSet(long[] map, BitSet set) {
        BitSet result = new BitSet();
        for (int k = set.nextSetBit(0); k >= 0; k = set.nextSetBit(k + 1)) {
            result.set(indexOf(image(map, points.get(k))));
        }
        return result;
    }

    BitSet setOfQuadric(long[] square) {
        BitSet set = new BitSet();
        for (int k = 0; k < points.size(); k++) {
            if (form(square, points.get(k), points.get(k)) == 0) {
                set.set(k);
            }
        }
        return set;
    }

    /** How many of the rows, at most, are such that no one lies among what the others span. */
    int rankOf(long[]... lines) {
        java.util.Set<String> span = new java.util.HashSet<>();
        List<long[]> all = new ArrayList<>();
        all.add(new long[lines[0].length]);
        span.add(key(all.get(0)));
        int rank = 0;
        for (long[] line : lines) {
            if (span.contains(key(line))) {
                continue;
            }
            rank++;
            int before = all.size();
            for (int k = 0; k < before; k++) {
                for (int t = 1; t < p; t++) {
                    long[] more = plus(all.get(k), t, line);
                    span.add(key(more));
                    all.add(more);
                }
            }
        }
        return rank;
    }

    /** The cross ratio as the document says it; -1 if there is none. */
    long crossRatio(long[] a, long[] b, long[] c, long[] d) {
        if (rankOf(a, b, c, d) != 2) {
            return -1;
        }
        long[][] all = {a, b, c, d};
        for (int i = 0; i < width; i++) {
            for (int j = i + 1; j < width; j++) {
                boolean some = false;
                for (long[] x : all) {
                    for (long[] y : all) {
                        some |= minor(x, y, i, j) != 0;
                    }
                }
                if (some) {
                    return ratio(minor(a, c, i, j) * minor(b, d, i, j) % p,
                        minor(b, c, i, j) * minor(a, d, i, j) % p);
                }
            }
        }
        return -1;
    }

    private long ratio(long upper, long lower) {
        if (lower == 0) {
            return upper == 0 ? -1 : p;
        }
        long r = 0;
        while (r * lower % p != upper) {
            r++;
        }
        return r;
    }

    /** The points of a line in the document's order. */
    List<long[]> inOrder(BitSet line) {
        for (int a = line.nextSetBit(0); a >= 0; a = line.nextSetBit(a + 1)) {
            for (int b = line.nextSetBit(0); b >= 0; b = line.nextSetBit(b + 1)) {
                long[] x = points.get(a);
                long[] y = points.get(b);
                int i = firstPlace(x);
                int j = firstPlace(y);
                if (i < j && x[j] == 0 && y[i] == 0) {
                    List<long[]> order = new ArrayList<>();
                    for (int t = 0; t < p; t++) {
                        order.add(plus(x, t, y));
                    }
                    order.add(y);
                    return order;
                }
            }
        }
        throw new IllegalStateException("a line without a base");
    }

    private static int firstPlace(long[] row) {
        int i = 0;
        while (row[i] == 0) {
            i++;
        }
        return i;
    }

    static BitSet shared(BitSet a, BitSet b) {
        BitSet both = (BitSet) a.clone();
        both.and(b);
        return both;
    }

    static BitSet united(BitSet a, BitSet b) {
        BitSet either = (BitSet) a.clone();
        either.or(b);
        return either;
    }

    static boolean isWithin(BitSet inside, BitSet outside) {
        BitSet rest = (BitSet) inside.clone();
        rest.andNot(outside);
        return rest.isEmpty();
    }

    int isParallel(int sortA, long[] rowA, int sortB, long[] rowB, BitSet far) {
        BitSet a = setOf(sortA, rowA);
        BitSet b = setOf(sortB, rowB);
        if (isWithin(a, far) || isWithin(b, far)) {
            return Check.NONE;
        }
        if (isWithin(a, b) || isWithin(b, a)) {
            return 1;
        }
        BitSet both = shared(a, b);
        return !both.isEmpty() && isWithin(both, far) ? 1 : 0;
    }

    /** The point that has the cross ratio p - 1 with two and their line's far one; or null. */
    long[] middle(long[] x, long[] y, long[] far) {
        if (key(x).equals(key(y)) || dot(x, far) == 0 || dot(y, far) == 0) {
            return null;
        }
        long[] at = null;
        List<long[]> line = inOrder(lineOf(x, y));
        for (long[] z : line) {
            at = dot(z, far) == 0 ? z : at;
        }
        long[] found = null;
        for (long[] z : line) {
            found = crossRatio(x, y, at, z) == p - 1 ? z : found;
        }
        return found;
    }

    /** The row with this cross ratio; null if the three are not all different, or of rank 2. */
    long[] fourth(int sort, long[] a, long[] b, long[] c, long v) {
        if (key(a).equals(key(b)) || key(b).equals(key(c)) || key(a).equals(key(c))) {
            return null;
        }
        long[] found = null;
        for (long[] y : rows.get(sort)) {
            found = crossRatio(a, b, c, y) == v ? y : found;
        }
        return found;
    }

    /** The point whose polar a flat is; null if the quadric's rank is below n + 1. */
    long[] pole(long[] square, long[] flat) {
        long[] found = null;
        for (long[] z : points) {
            if (key(normal(image(square, z))).equals(key(flat))) {
                found = z;
            }
        }
        return rankOfSquare(square) == width ? found : null;
    }

    /** The line that is on all planes with the rows of a line's points. */
    long[] dualOfLine(long[] line) {
        BitSet shared = new BitSet();
        shared.set(0, points.size());
        for (long[] y : inOrder(setOf(Check.LINE, line))) {
            shared.and(setOf(Check.PLANE, normal(y)));
        }
        return onlyAround(Check.LINE, shared);
    }

    /** The points of a line that are on a quadric, in the line's order. */
    List<long[]> common(long[] square, long[] line) {
        List<long[]> found = new ArrayList<>();
        for (long[] y : inOrder(setOf(Check.LINE, line))) {
            if (form(square, y, y) == 0) {
                found.add(y);
            }
        }
        return found;
    }

    /** The only quadric with all these points, looked for among all; null if not just one. */
    long[] quadricOn(BitSet inside) {
        if (quadrics.isEmpty()) {
            allQuadrics();
        }
        long[] found = null;
        for (int i = 0; i < quadrics.size(); i++) {
            if (isWithin(inside, quadricSets.get(i))) {
                if (found != null) {
                    return null;
                }
                found = quadrics.get(i);
            }
        }
        return found;
    }

    private void allQuadrics() {
        int codes = 1;
        for (int k = 0; k < width * (width + 1) / 2; k++) {
            codes *= p;
        }
        for (int code = 1; code < codes; code++) {
            long[] square = new long[width * width];
            int left = code;
            for (int i = 0; i < width; i++) {
                for (int j = i; j < width; j++) {
                    square[i * width + j] = left % p;
                    square[j * width + i] = left % p;
                    left /= p;
                }
            }
            if (key(square).equals(key(normal(square)))) {
                quadrics.add(square);
                quadricSets.add(setOfQuadric(square));
            }
        }
    }

    BitSet lineOf(long[] x, long[] y) {
        BitSet two = new BitSet();
        two.set(indexOf(x));
        two.set(indexOf(y));
        long[] line = onlyAround(Check.LINE, two);
        return line == null ? null : setOf(Check.LINE, line);
    }

    int orderOf(long[] square) {
        int[] to = new int[points.size()];
        int[] now = new int[to.length];
        for (int k = 0; k < to.length; k++) {
            to[k] = indexOf(image(square, points.get(k)));
            now[k] = k;
        }
        for (int times = 1; times <= 1000; times++) {
            boolean back = true;
            for (int k = 0; k < to.length; k++) {
                now[k] = to[now[k]];
                back &= now[k] == k;
            }
            if (back) {
                return times;
            }
        }
        return Check.NONE;
    }

    boolean isFrame(long[][] points) {
        for (int without = 0; without < points.length; without++) {
            long[][] rest = new long[points.length - 1][];
            for (int i = 0; i < rest.length; i++) {
                rest[i] = points[i < without ? i : i + 1];
            }
            if (rankOf(rest) != width) {
                return false;
            }
        }
        return true;
    }

    int holds(int theorem, long[][] six) {
        if (theorem == 0 && (rankOf(six[0], six[2], six[4]) == 3
            || rankOf(six[1], six[3], six[5]) == 3)) {
            return Check.NONE;
        }
        if (theorem == 1 && !areThroughOnePoint(six)) {
            return Check.NONE;
        }
        if (theorem == 2 && !areOnAQuadric(six)) {
            return Check.NONE;
        }
        int[][] sides = theorem == 1
            ? new int[][] {{0, 1, 3, 4}, {1, 2, 4, 5}, {2, 0, 5, 3}}
            : new int[][] {{0, 1, 3, 4}, {1, 2, 4, 5}, {2, 3, 5, 0}};
        long[][] met = new long[3][];
        for (int k = 0; k < 3; k++) {
            BitSet one = lineOf(six[sides[k][0]], six[sides[k][1]]);
            BitSet other = lineOf(six[sides[k][2]], six[sides[k][3]]);
            if (one == null || other == null) {
                return Check.NONE;
            }
            met[k] = onlyWithin(Check.POINT, shared(one, other));
            if (met[k] == null) {
                return Check.NONE;
            }
        }
        return rankOf(met) < 3 ? 1 : 0;
    }

    private boolean areThroughOnePoint(long[][] six) {
        BitSet shared = new BitSet();
        shared.set(0, points.size());
        for (int i = 0; i < 3; i++) {
            BitSet line = lineOf(six[i], six[i + 3]);
            if (line == null) {
                return false;
            }
            shared.and(line);
        }
        return !shared.isEmpty();
    }

    private boolean areOnAQuadric(long[][] six) {
        long[][] conditions = new long[6][];
        for (int i = 0; i < 6; i++) {
            long a = six[i][0];
            long b = six[i][1];
            long c = six[i][2];
            conditions[i] = new long[] {a * a % p, b * b % p, c * c % p, a * b % p, a * c % p,
                b * c % p};
        }
        return rankOf(conditions) < 6;
    }
}
