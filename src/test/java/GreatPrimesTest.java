import java.math.BigInteger;

/**
 * The greatest primes, with numbers at both ends of 0 .. p - 1, where sums and products are
 * greatest: what is made is compared with the document's formulas.
 */
public final class GreatPrimesTest {
    private static final int NONE = Check.NONE;
    private static final int POINT = 0, LINE = 1, PLANE = 2, MAP = 3, QUADRIC = 4;

    private final int n;
    private final int width;
    private final long p;
    private long seed;
    private Asked x;

    private GreatPrimesTest(int n, int p) {
        this.n = n;
        this.width = n + 1;
        this.p = p;
        this.seed = n + p;
    }

    public static void main(String[] args) {
        for (int p : new int[] {2147483647, 2147483629, 2147483587}) {
            for (int n = 2; n <= 3; n++) {
                GreatPrimesTest test = new GreatPrimesTest(n, p);
                for (int k = 0; k < 300; k++) {
                    test.joinAndMeet();
                    test.ratiosAndMiddles();
                    test.maps();
                    test.mapByPoints();
                    test.quadrics();
                    test.quadricByPoints();
                    if (n == 3) {
                        test.linesOfSpace();
                    } else {
                        test.theorems();
                    }
                }
            }
        }
        Check.end("GreatPrimesTest");
    }

    private void begin() {
        x = new Asked();
        x.begin(n, (int) p);
    }

    private void due(String what, long got, long want) {
        Check.due("n " + n + ", p " + p + ": " + what, got, want);
    }

    private long any() {
        seed = seed * 6364136223846793005L + 1442695040888963407L;
        long v = seed >>> 20;
        switch ((int) (v % 8)) {
            case 0:
                return 0;
            case 1:
                return 1;
            case 2:
                return p - 1;
            case 3:
                return p - 2;
            case 4:
                return p / 2;
            default:
                return (seed >>> 24) % p;
        }
    }

    private long[] anyRow(int length) {
        long[] row = new long[length];
        do {
            for (int i = 0; i < length; i++) {
                row[i] = any();
            }
        } while (isZero(row));
        return row;
    }

    private static boolean isZero(long[] row) {
        for (long v : row) {
            if (v != 0) {
                return false;
            }
        }
        return true;
    }

    private long times(long a, long b) {
        return BigInteger.valueOf(a).multiply(BigInteger.valueOf(b)).mod(BigInteger.valueOf(p))
            .longValue();
    }

    private long dot(long[] a, long[] b) {
        long sum = 0;
        for (int i = 0; i < a.length; i++) {
            sum = (sum + times(a[i], b[i])) % p;
        }
        return sum;
    }

    /** s a + t b */
    private long[] sum(long s, long[] a, long t, long[] b) {
        long[] row = new long[a.length];
        for (int i = 0; i < row.length; i++) {
            row[i] = (times(s, a[i]) + times(t, b[i])) % p;
        }
        return row;
    }

    private long minor(long[] a, long[] b, int i, int j) {
        return Math.floorMod(times(a[i], b[j]) - times(a[j], b[i]), p);
    }

    /** The LINE of two points of the plane, the POINT of two lines; of space the LINE of points. */
    private long[] lineOf(long[] a, long[] b) {
        if (n == 2) {
            return new long[] {minor(a, b, 1, 2), minor(a, b, 2, 0), minor(a, b, 0, 1)};
        }
        return new long[] {minor(a, b, 0, 1), minor(a, b, 0, 2), minor(a, b, 0, 3),
            minor(a, b, 1, 2), minor(a, b, 1, 3), minor(a, b, 2, 3)};
    }

    /** The LINE of two planes. */
    private long[] lineOfPlanes(long[] u, long[] v) {
        return new long[] {minor(u, v, 2, 3), minor(u, v, 3, 1), minor(u, v, 1, 2),
            minor(u, v, 0, 3), minor(u, v, 2, 0), minor(u, v, 0, 1)};
    }

    private long[] image(long[] square, long[] a) {
        long[] row = new long[width];
        for (int i = 0; i < width; i++) {
            for (int j = 0; j < width; j++) {
                row[i] = (row[i] + times(square[i * width + j], a[j])) % p;
            }
        }
        return row;
    }

    private long[] rowOf(int a, int length) {
        long[] row = new long[length];
        for (int i = 0; i < length; i++) {
            row[i] = x.number(a, i);
        }
        return row;
    }

    /** That the object has this sort and a multiple of this row; NONE is due of a row of zeros. */
    private void dueRow(String what, int a, int sort, long[] want) {
        if (isZero(want)) {
            due(what, a, NONE);
            return;
        }
        due(what + ": SORT", x.sort(a), sort);
        long[] got = rowOf(a, want.length);
        int first = 0;
        while (first < got.length && got[first] == 0) {
            first++;
        }
        due(what + ": the first number", first < got.length ? got[first] : 0, 1);
        for (int i = 0; i < got.length && first < got.length; i++) {
            due(what + ": number " + i, times(got[i], want[first]), want[i]);
        }
    }

    private void joinAndMeet() {
        begin();
        long[] a = anyRow(width);
        long[] b = anyRow(width);
        int pointA = x.row(POINT, a);
        int pointB = x.row(POINT, b);
        int flatA = x.dual(pointA);
        int flatB = x.dual(pointB);
        dueRow("dual", flatA, n - 1, a);
        dueRow("dual", flatB, n - 1, b);
        dueRow("join", x.join(pointA, pointB), LINE, lineOf(a, b));
        dueRow("meet", x.meet(flatA, flatB), n == 2 ? POINT : LINE,
            n == 2 ? lineOf(a, b) : lineOfPlanes(a, b));
        due("on", x.on(pointA, flatB), dot(a, b) == 0 ? 1 : 0);
    }

    private void ratiosAndMiddles() {
        begin();
        long[] a = anyRow(width);
        long[] b = anyRow(width);
        long s = 1 + any() % (p - 1);
        if (isZero(lineOf(a, b))) {
            return;
        }
        int[] four = {x.row(POINT, a), x.row(POINT, b), x.row(POINT, sum(1, a, 1, b)),
            x.row(POINT, sum(1, a, s, b))};
        // [a c] is [a b], [b d] and [b c] are - [a b], [a d] is s [a b].
        long v = x.cross(four[0], four[1], four[2], four[3]);
        due("cross", times(v, s), 1);
        due("fourth", x.fourth(four[0], four[1], four[2], v), four[3]);
        long[] u = anyRow(width);
        x.ideal(x.row(n - 1, u));
        long ofA = dot(u, a);
        long ofB = dot(u, b);
        dueRow("middle", x.middle(four[0], four[1]), POINT,
            ofA == 0 || ofB == 0 ? new long[width] : sum(ofB, a, ofA, b));
    }

    private int anyMap() {
        int m;
        do {
            m = x.row(MAP, anyRow(width * width));
        } while (m < 0);
        return m;
    }

    private void maps() {
        begin();
        int m = anyMap();
        long[] square = rowOf(m, width * width);
        long[] a = anyRow(width);
        int point = x.row(POINT, a);
        dueRow("apply to a POINT", x.apply(m, point), POINT, image(square, a));
        int back = x.inverse(m);
        due("inverse", x.apply(back, x.apply(m, point)), point);
        due("order of the unit", x.order(x.compose(m, back)), 1);
        int flat = x.dual(point);
        due("apply to LINE, PLANE", x.apply(m, flat), x.dual(x.apply(x.dual(m), point)));
        long[] square2 = anySymmetric();
        int q = x.row(QUADRIC, square2);
        due("apply to a QUADRIC", x.on(x.apply(m, q), x.apply(m, point)), x.on(q, point));
        int other = anyMap();
        long[] product = image(square, image(rowOf(other, width * width), a));
        dueRow("compose", x.apply(x.compose(m, other), point), POINT, product);
        due("apply to a MAP", x.apply(m, other), x.compose(x.compose(m, other), back));
    }

    private void mapByPoints() {
        begin();
        int[] from = new int[n + 2];
        int[] to = new int[n + 2];
        for (int k = 0; k < n + 2; k++) {
            from[k] = x.row(POINT, anyRow(width));
            to[k] = x.row(POINT, anyRow(width));
            due("pair", x.pair(from[k], to[k]), k + 1);
        }
        int m = x.map();
        due("map: the PAIRS", x.told(4), m < 0 ? n + 2 : 0);
        for (int k = 0; m >= 0 && k < n + 2; k++) {
            due("map", x.apply(m, from[k]), to[k]);
        }
    }

    private long[] anySymmetric() {
        long[] square = anyRow(width * width);
        square[0] = 1 + any() % (p - 1);
        for (int i = 0; i < width; i++) {
            for (int j = 0; j < i; j++) {
                square[i * width + j] = square[j * width + i];
            }
        }
        return square;
    }

    private void quadrics() {
        begin();
        long[] square = anySymmetric();
        int q = x.row(QUADRIC, square);
        long[] a = anyRow(width);
        int point = x.row(POINT, a);
        due("ON a QUADRIC", x.on(point, q), dot(a, image(square, a)) == 0 ? 1 : 0);
        int u = x.polar(q, point);
        dueRow("polar", u, n - 1, image(square, a));
        if (u >= 0) {
            due("polar of LINE, PLANE", x.polar(q, u), x.rank(q) == width ? point : NONE);
        }
        if (x.rank(q) == width) {
            // The inverse takes Q x back to x.
            due("dual of a QUADRIC", x.polar(x.dual(q), x.dual(u)), x.dual(point));
        } else {
            due("dual of a QUADRIC", x.dual(q), NONE);
        }
        int line = x.join(point, x.row(POINT, anyRow(width)));
        if (line >= 0) {
            sharedPoints(q, line);
        }
    }

    private void sharedPoints(int q, int line) {
        long count = x.touches(q, line);
        Check.due("touches", count >= 0 && (count <= 2 || count == p + 1));
        for (int k = 0; k < Math.min(count, 3); k++) {
            int point = x.common(q, line, k);
            due("common: ON the LINE", x.on(point, line), 1);
            due("common: ON the QUADRIC", x.on(q, point), 1);
        }
        if (count <= 2) {
            due("common: no more", x.common(q, line, (int) count), NONE);
        }
    }

    private void quadricByPoints() {
        begin();
        int count = n == 2 ? 5 : 9;
        int[] points = new int[count];
        for (int k = 0; k < count; k++) {
            due("quadric: too few", x.quadric(), NONE);
            points[k] = x.row(POINT, anyRow(width));
            x.gather(points[k]);
        }
        int q = x.quadric();
        for (int k = 0; q >= 0 && k < count; k++) {
            due("quadric", x.on(points[k], q), 1);
        }
    }

    private void linesOfSpace() {
        begin();
        long[] a = anyRow(width);
        long[] b = anyRow(width);
        long[] c = anyRow(width);
        long[] u = anyRow(width);
        int pointA = x.row(POINT, a);
        int pointB = x.row(POINT, b);
        int pointC = x.row(POINT, c);
        int plane = x.row(PLANE, u);
        int line = x.join(pointA, pointB);
        if (line < 0) {
            return;
        }
        dueRow("meet of LINE, PLANE", x.meet(line, plane), POINT,
            sum(dot(u, b), a, p - dot(u, a), b));
        dueRow("dual of a LINE", x.dual(line), LINE, lineOfPlanes(a, b));
        int all = x.join(line, pointC);
        if (all < 0) {
            due("no PLANE: C is ON it", x.on(pointC, line), 1);
            return;
        }
        due("ON the PLANE", x.on(pointA, all) + x.on(pointB, all) + x.on(pointC, all), 3);
        int other = x.join(pointA, pointC);
        due("join of LINES", x.join(line, other), all);
        due("meet of LINES", x.meet(line, other), pointA);
        due("LINE ON the PLANE", x.on(other, all), 1);
        int m = anyMap();
        due("apply to a LINE", x.apply(m, line), x.join(x.apply(m, pointA), x.apply(m, pointB)));
    }

    private void theorems() {
        begin();
        long[] a = anyRow(width);
        long[] b = anyRow(width);
        long[] c = anyRow(width);
        long[] d = anyRow(width);
        long[][] six = {a, c, b, d, sum(1, a, p - 1, b), sum(1, c, p - 2, d)};
        for (long[] row : six) {
            if (isZero(row)) {
                return;
            }
        }
        for (long[] row : six) {
            x.gather(x.row(POINT, row));
        }
        int pappus = x.holds(0);
        Check.due("Pappus: " + pappus, pappus == 1 || pappus == NONE);
        due("Pascal of two lines", x.holds(2), pappus);
        x.forget();
        long[] t = {1, p - 1, p / 2, 2, p - 2, 3 + any() % 1000};
        for (int k = 0; k < 6; k++) {
            x.gather(x.row(POINT, 1, t[k], times(t[k], t[k])));
        }
        due("Pascal", x.holds(2), 1);
    }
}
