import java.util.Arrays;

/**
 * Geometry of position over the numbers modulo an odd prime, in the plane and in space.
 * Points, lines, planes, maps and quadrics are rows of numbers, told apart but for a factor.
 */
public final class ProjectiveRows {
    public static final int NONE = -1, BAD = -2, FULL = -3;

    private static final int POINT = 0;
    private static final int LINE = 1;
    private static final int PLANE = 2;
    private static final int MAP = 3;
    private static final int QUADRIC = 4;

    private static final int MOST_OBJECTS = 60;
    private static final int MOST_GATHERED = 9;
    private static final int MOST_PAIRS = 5;
    private static final int MOST_TIMES = 1000;
    private static final int HAND = 16;

    private static final int PAPPUS = 0;
    private static final int DESARGUES = 1;
    private static final int PASCAL = 2;
    private static final int SIX = 6;

    /** Four points a step: the line of the first two meets the line of the last two. */
    private static final int[] SIDES_OF_HEXAGON = {0, 1, 3, 4, 1, 2, 4, 5, 2, 3, 5, 0};
    private static final int[] SIDES_OF_TRIANGLES = {0, 1, 3, 4, 1, 2, 4, 5, 2, 0, 5, 3};

    private final Shelf shelf = new Shelf();
    private final long[] hand = new long[HAND];
    private final int[] gathered = new int[MOST_GATHERED];
    private final int[] pairFrom = new int[MOST_PAIRS];
    private final int[] pairTo = new int[MOST_PAIRS];

    private int n;
    private int flat;
    private Field field;
    private Rows rows;
    private Space space;
    private int gatheredCount;
    private int pairCount;
    private int idealOne;

    public ProjectiveRows() {
        startAnew(2, 3);
    }

    public int begin(int n, int p) {
        if (n < 2 || n > 3 || !Field.isOddPrime(p)) {
            return BAD;
        }
        startAnew(n, p);
        return 1;
    }

    public int put(int i, long v) {
        if (i < 0 || i >= HAND) {
            return BAD;
        }
        hand[i] = field.reduced(v);
        return (int) hand[i];
    }

    public int make(int sort) {
        int length = lengthOf(sort);
        if (length == 0) {
            return BAD;
        }
        long[] row = Arrays.copyOf(hand, length);
        return isRowOf(sort, row) ? keep(sort, row) : NONE;
    }

    public int number(int a, int i) {
        Item item = shelf.item(a);
        if (item == null || i < 0 || i >= item.row.length) {
            return BAD;
        }
        return (int) item.row[i];
    }

    public int sort(int a) {
        Item item = shelf.item(a);
        return item == null ? BAD : item.sort;
    }

    public int join(int a, int b) {
        Item x = shelf.lower(a, b);
        Item y = shelf.higher(a, b);
        if (x == null || y == null) {
            return BAD;
        }
        if (x.sort == POINT && y.sort == POINT) {
            return keep(LINE, space.lineThrough(x.row, y.row));
        }
        if (n == 2 || y.sort != LINE) {
            return BAD;
        }
        return keep(PLANE, x.sort == POINT
            ? space.planeThrough(y.row, x.row)
            : space.planeOfLines(x.row, y.row));
    }

    public int meet(int a, int b) {
        Item x = shelf.lower(a, b);
        Item y = shelf.higher(a, b);
        if (x == null || y == null || !isBetweenLineAndFlat(x) || !isBetweenLineAndFlat(y)) {
            return BAD;
        }
        if (x.sort == flat) {
            return keep(n == 2 ? POINT : LINE, space.crossing(x.row, y.row));
        }
        return keep(POINT, y.sort == PLANE
            ? space.pointOnPlane(x.row, y.row)
            : space.pointOfLines(x.row, y.row));
    }

    public int on(int a, int b) {
        Item x = shelf.lower(a, b);
        Item y = shelf.higher(a, b);
        if (x == null || y == null) {
            return BAD;
        }
        if (x.sort == POINT) {
            return pointIsOn(x.row, y);
        }
        if (n == 2 || x.sort != LINE) {
            return BAD;
        }
        if (y.sort == LINE) {
            return oneIf(space.linesMeet(x.row, y.row));
        }
        return y.sort == PLANE ? oneIf(space.lineIsOnPlane(x.row, y.row)) : BAD;
    }

    public long cross(int a, int b, int c, int d) {
        long[][] four = rowsOfOneSort(new int[] {a, b, c, d});
        if (four == null) {
            return BAD;
        }
        return rows.rankOf(four) == 2 ? space.crossRatio(four) : NONE;
    }

    public int fourth(int a, int b, int c, long v) {
        Item first = shelf.item(a);
        long[][] three = rowsOfOneSort(new int[] {a, b, c});
        if (first == null || three == null || v < 0 || v > field.p) {
            return BAD;
        }
        if (a == b || b == c || a == c || rows.rankOf(three) != 2) {
            return NONE;
        }
        return keep(first.sort, space.fourthOf(three, v));
    }

    public int pair(int a, int b) {
        if (shelf.row(a, POINT) == null || shelf.row(b, POINT) == null) {
            return BAD;
        }
        if (pairCount >= n + 2 || pairCount >= MOST_PAIRS) {
            return FULL;
        }
        pairFrom[pairCount] = a;
        pairTo[pairCount] = b;
        pairCount++;
        return pairCount;
    }

    public int map() {
        if (pairCount != n + 2) {
            return NONE;
        }
        long[] from = rows.frameOf(pointRows(pairFrom, pairCount));
        long[] to = rows.frameOf(pointRows(pairTo, pairCount));
        if (from == null || to == null) {
            return NONE;
        }
        long[] back = rows.inverted(from);
        if (back == null) {
            return NONE;
        }
        int made = keep(MAP, rows.product(to, back));
        if (made >= 0) {
            pairCount = 0;
        }
        return made;
    }

    public int apply(int m, int a) {
        long[] there = shelf.row(m, MAP);
        Item x = shelf.item(a);
        if (there == null || x == null) {
            return BAD;
        }
        long[] back = rows.inverted(there);
        if (back == null) {
            return NONE;
        }
        if (x.sort == flat) {
            return keep(flat, rows.image(rows.turned(back), x.row));
        }
        switch (x.sort) {
            case POINT:
                return keep(POINT, rows.image(there, x.row));
            case LINE:
                return keep(LINE, space.lineImage(there, x.row));
            case MAP:
                return keep(MAP, rows.product(rows.product(there, x.row), back));
            default:
                return keep(QUADRIC, rows.product(rows.product(rows.turned(back), x.row), back));
        }
    }

    public int compose(int a, int b) {
        long[] last = shelf.row(a, MAP);
        long[] first = shelf.row(b, MAP);
        if (last == null || first == null) {
            return BAD;
        }
        return keep(MAP, rows.product(last, first));
    }

    public int inverse(int m) {
        long[] there = shelf.row(m, MAP);
        return there == null ? BAD : keep(MAP, rows.inverted(there));
    }

    public int order(int m) {
        long[] power = shelf.row(m, MAP);
        if (power == null) {
            return BAD;
        }
        // A map that leaves the n + 2 points of a frame leaves all points, and the times that
        // bring back some of them are the multiples of the least one: so point by point.
        int times = 1;
        for (int k = 0; k < n + 2; k++) {
            int more = rows.timesUntilBack(power, rows.framePoint(k), MOST_TIMES / times);
            if (more == 0) {
                return NONE;
            }
            times *= more;
            power = rows.power(power, more);
        }
        return times;
    }

    public int gather(int a) {
        if (shelf.row(a, POINT) == null) {
            return BAD;
        }
        if (gatheredCount >= MOST_GATHERED) {
            return FULL;
        }
        gathered[gatheredCount] = a;
        gatheredCount++;
        return gatheredCount;
    }

    public int forget() {
        int were = gatheredCount;
        gatheredCount = 0;
        return were;
    }

    public int quadric() {
        long[][] points = pointRows(gathered, gatheredCount);
        return keep(QUADRIC, space.quadricThrough(points));
    }

    public int rank(int q) {
        long[] square = shelf.row(q, QUADRIC);
        return square == null ? BAD : rows.rankOfSquare(square);
    }

    public int polar(int q, int a) {
        long[] square = shelf.row(q, QUADRIC);
        Item x = shelf.item(a);
        if (square == null || x == null) {
            return BAD;
        }
        if (x.sort == POINT) {
            return keep(flat, rows.image(square, x.row));
        }
        if (x.sort != flat) {
            return BAD;
        }
        long[] back = rows.inverted(square);
        return back == null ? NONE : keep(POINT, rows.image(back, x.row));
    }

    public long touches(int q, int line) {
        long[] square = shelf.row(q, QUADRIC);
        long[] row = shelf.row(line, LINE);
        if (square == null || row == null) {
            return BAD;
        }
        long[] steps = space.stepsOnQuadric(square, space.baseOfLine(row));
        return steps == null ? field.p + 1 : steps.length;
    }

    public int common(int q, int line, int k) {
        long[] square = shelf.row(q, QUADRIC);
        long[] row = shelf.row(line, LINE);
        if (square == null || row == null || k < 0) {
            return BAD;
        }
        long[][] base = space.baseOfLine(row);
        long[] steps = space.stepsOnQuadric(square, base);
        if (steps == null) {
            return k > field.p ? NONE : keep(POINT, space.pointAt(base, k));
        }
        return k >= steps.length ? NONE : keep(POINT, space.pointAt(base, steps[k]));
    }

    public int root(long v) {
        return (int) field.squareRoot(field.reduced(v));
    }

    public int dual(int a) {
        Item x = shelf.item(a);
        if (x == null) {
            return BAD;
        }
        if (x.sort == POINT) {
            return keep(flat, x.row);
        }
        if (x.sort == flat) {
            return keep(POINT, x.row);
        }
        if (x.sort == LINE) {
            return keep(LINE, space.flipped(x.row));
        }
        long[] back = rows.inverted(x.row);
        if (back == null) {
            return NONE;
        }
        return keep(x.sort, x.sort == MAP ? rows.turned(back) : back);
    }

    public int ideal(int a) {
        if (shelf.row(a, flat) == null) {
            return BAD;
        }
        int was = idealOne;
        idealOne = a;
        return was;
    }

    public int parallel(int a, int b) {
        Item x = shelf.lower(a, b);
        Item y = shelf.higher(a, b);
        if (x == null || y == null || !isBetweenLineAndFlat(x) || !isBetweenLineAndFlat(y)) {
            return BAD;
        }
        long[] far = shelf.row(idealOne, flat);
        if (far == null || liesFar(x, far) || liesFar(y, far)) {
            return NONE;
        }
        return oneIf(a == b || meetFar(x, y, far));
    }

    public int middle(int a, int b) {
        long[] x = shelf.row(a, POINT);
        long[] y = shelf.row(b, POINT);
        if (x == null || y == null) {
            return BAD;
        }
        long[] far = shelf.row(idealOne, flat);
        if (far == null || a == b) {
            return NONE;
        }
        long ofX = rows.dot(far, x);
        long ofY = rows.dot(far, y);
        // The point of the line that is far is ofY x - ofX y; the fourth harmonic one has a plus.
        return ofX == 0 || ofY == 0 ? NONE : keep(POINT, rows.sum(ofY, x, ofX, y));
    }

    public int holds(int theorem) {
        if (n != 2 || theorem < PAPPUS || theorem > PASCAL) {
            return BAD;
        }
        if (gatheredCount != SIX) {
            return NONE;
        }
        long[][] six = pointRows(gathered, SIX);
        if (!isSupposed(theorem, six)) {
            return NONE;
        }
        int[] sides = theorem == DESARGUES ? SIDES_OF_TRIANGLES : SIDES_OF_HEXAGON;
        long[][] met = new long[3][];
        for (int k = 0; k < met.length; k++) {
            long[] side = space.lineThrough(six[sides[4 * k]], six[sides[4 * k + 1]]);
            long[] other = space.lineThrough(six[sides[4 * k + 2]], six[sides[4 * k + 3]]);
            met[k] = space.crossing(side, other);
            // A line that is not there is a row of zeros, and its crossing is one, too.
            if (Rows.isZero(met[k])) {
                return NONE;
            }
        }
        return oneIf(rows.rankOf(met) < 3);
    }

    public int told(int what) {
        switch (what) {
            case 0:
                return n;
            case 1:
                return (int) field.p;
            case 2:
                return shelf.count;
            case 3:
                return gatheredCount;
            case 4:
                return pairCount;
            case 5:
                return idealOne;
            default:
                return BAD;
        }
    }

    private void startAnew(int dimension, int prime) {
        n = dimension;
        flat = dimension - 1;
        field = new Field(prime);
        rows = new Rows(field, dimension + 1);
        space = new Space(rows);
        shelf.empty();
        Arrays.fill(hand, 0L);
        gatheredCount = 0;
        pairCount = 0;
        idealOne = NONE;
    }

    private static int oneIf(boolean so) {
        return so ? 1 : 0;
    }

    /** 0 if there is no such sort in this dimension. */
    private int lengthOf(int sort) {
        int width = n + 1;
        switch (sort) {
            case POINT:
                return width;
            case LINE:
                return n == 2 ? 3 : 6;
            case PLANE:
                return n == 2 ? 0 : width;
            case MAP:
            case QUADRIC:
                return width * width;
            default:
                return 0;
        }
    }

    private boolean isRowOf(int sort, long[] row) {
        switch (sort) {
            case LINE:
                return n == 2 || space.linesMeet(row, row);
            case MAP:
                return rows.rankOfSquare(row) == n + 1;
            case QUADRIC:
                return Rows.isSame(row, rows.turned(row));
            default:
                return true;
        }
    }

    /** A row that could not be made (null, or all zeros) is answered by NONE. */
    private int keep(int sort, long[] row) {
        if (row == null || Rows.isZero(row)) {
            return NONE;
        }
        return shelf.place(sort, rows.normal(row));
    }

    private boolean isBetweenLineAndFlat(Item x) {
        return x.sort >= LINE && x.sort <= flat;
    }

    private int pointIsOn(long[] point, Item y) {
        if (y.sort == flat) {
            return oneIf(rows.dot(point, y.row) == 0);
        }
        if (y.sort == LINE) {
            return oneIf(space.pointIsOnLine(point, y.row));
        }
        if (y.sort == QUADRIC) {
            return oneIf(rows.form(y.row, point, point) == 0);
        }
        return BAD;
    }

    /** The rows of objects whose cross ratio can be asked; null if they are no such ones. */
    private long[][] rowsOfOneSort(int[] which) {
        Item first = shelf.item(which[0]);
        if (first == null || (first.sort != POINT && first.sort != flat)) {
            return null;
        }
        long[][] found = new long[which.length][];
        for (int k = 0; k < which.length; k++) {
            found[k] = shelf.row(which[k], first.sort);
            if (found[k] == null) {
                return null;
            }
        }
        return found;
    }

    private long[][] pointRows(int[] which, int count) {
        long[][] found = new long[count][];
        for (int k = 0; k < count; k++) {
            long[] row = shelf.row(which[k], POINT);
            found[k] = row == null ? new long[n + 1] : row;
        }
        return found;
    }

    private boolean liesFar(Item x, long[] far) {
        if (x.sort == flat) {
            return Rows.isSame(x.row, far);
        }
        return space.lineIsOnPlane(x.row, far);
    }

    private boolean meetFar(Item x, Item y, long[] far) {
        if (x.sort == flat) {
            long[] shared = space.crossing(x.row, y.row);
            return n == 2 ? rows.dot(shared, far) == 0 : space.lineIsOnPlane(shared, far);
        }
        // A line on the plane leaves a row of zeros here, which counts as far: that is parallel.
        long[] shared = y.sort == PLANE
            ? space.pointOnPlane(x.row, y.row)
            : space.pointOfLines(x.row, y.row);
        return shared != null && rows.dot(shared, far) == 0;
    }

    private boolean isSupposed(int theorem, long[][] six) {
        if (theorem == PASCAL) {
            return rows.rankOf(space.quadricConditions(six)) < SIX;
        }
        if (theorem == PAPPUS) {
            return rows.rankOf(new long[][] {six[0], six[2], six[4]}) < 3
                && rows.rankOf(new long[][] {six[1], six[3], six[5]}) < 3;
        }
        long[][] lines = new long[3][];
        for (int k = 0; k < lines.length; k++) {
            lines[k] = space.lineThrough(six[k], six[k + 3]);
            if (Rows.isZero(lines[k])) {
                return false;
            }
        }
        return rows.rankOf(lines) < 3;
    }

    /** One object of the document. */
    private static final class Item {
        final int sort;
        final long[] row;

        Item(int sort, long[] row) {
            this.sort = sort;
            this.row = row;
        }
    }

    /** All objects, in the order in which they were made. */
    private static final class Shelf {
        final Item[] items = new Item[MOST_OBJECTS];
        int count;

        void empty() {
            count = 0;
        }

        Item item(int a) {
            return a < 0 || a >= count || a >= items.length ? null : items[a];
        }

        /** Null if there is no such object, or it is of another sort. */
        long[] row(int a, int sort) {
            Item found = item(a);
            return found == null || found.sort != sort ? null : found.row;
        }

        /** Of two objects the one with the lesser sort; the first one if they are of one sort. */
        Item lower(int a, int b) {
            Item x = item(a);
            Item y = item(b);
            return x == null || y == null || x.sort <= y.sort ? x : y;
        }

        /** The one that lower leaves. */
        Item higher(int a, int b) {
            Item x = item(a);
            Item y = item(b);
            return x == null || y == null || x.sort <= y.sort ? y : x;
        }

        int place(int sort, long[] row) {
            for (int a = 0; a < count; a++) {
                if (items[a].sort == sort && Rows.isSame(items[a].row, row)) {
                    return a;
                }
            }
            if (count >= items.length) {
                return FULL;
            }
            items[count] = new Item(sort, row);
            count++;
            return count - 1;
        }
    }

    /** The numbers 0 .. p - 1, reckoned modulo p. */
    private static final class Field {
        final long p;

        Field(int p) {
            // Nothing below may divide by 0, whoever makes a field.
            this.p = Math.max(3, p);
        }

        static boolean isOddPrime(int p) {
            if (p < 3 || p % 2 == 0) {
                return false;
            }
            for (int d = 3; d <= p / d; d += 2) {
                if (p % d == 0) {
                    return false;
                }
            }
            return true;
        }

        long reduced(long v) {
            return Math.floorMod(v, p);
        }

        long plus(long a, long b) {
            return (a + b) % p;
        }

        long minus(long a, long b) {
            return (a + p - b) % p;
        }

        long negative(long a) {
            return a == 0 ? 0 : p - a;
        }

        long times(long a, long b) {
            return a * b % p;
        }

        long power(long a, long exponent) {
            long result = 1;
            long square = a;
            for (long left = exponent; left > 0; left >>= 1) {
                if ((left & 1) == 1) {
                    result = result * square % p;
                }
                square = square * square % p;
            }
            return result;
        }

        long reciprocal(long a) {
            return power(a, p - 2);
        }

        /** The lesser root; NONE if there is none. */
        long squareRoot(long v) {
            if (v == 0) {
                return 0;
            }
            if (power(v, (p - 1) / 2) != 1) {
                return NONE;
            }
            int twos = 0;
            long odd = p - 1;
            for (; twos < 32 && odd % 2 == 0; twos++) {
                odd /= 2;
            }
            long root = power(v, (odd + 1) / 2);
            long excess = power(v, odd);
            long mender = power(leastNonSquare(), odd);
            // root squared is v times excess all the way; the order of excess, a power of 2,
            // is halved at least once a step until excess is 1.
            for (int step = twos - 1; step > 0; step--) {
                long next = times(mender, mender);
                if (power(excess, 1L << (step - 1)) != 1) {
                    root = times(root, mender);
                    excess = times(excess, next);
                }
                mender = next;
            }
            return Math.min(root, p - root);
        }

        private long leastNonSquare() {
            for (long v = 2; v < p; v++) {
                if (power(v, (p - 1) / 2) != 1) {
                    return v;
                }
            }
            return 1;
        }
    }

    /** Rows of numbers, and squares of width times width of them, line by line. */
    private static final class Rows {
        final Field field;
        final int width;

        Rows(Field field, int width) {
            this.field = field;
            this.width = width;
        }

        static int lead(long[] row) {
            int i = 0;
            while (i < row.length && row[i] == 0) {
                i++;
            }
            return i;
        }

        static boolean isZero(long[] row) {
            return lead(row) == row.length;
        }

        static boolean isSame(long[] a, long[] b) {
            if (a.length != b.length) {
                return false;
            }
            for (int i = 0; i < a.length; i++) {
                if (a[i] != b[i]) {
                    return false;
                }
            }
            return true;
        }

        /** The same row with 1 as its first number that is not 0; a row of zeros stays. */
        long[] normal(long[] row) {
            int first = lead(row);
            long[] result = row.clone();
            if (first < row.length && row[first] != 1) {
                scale(result, field.reciprocal(row[first]));
            }
            return result;
        }

        private void scale(long[] row, long factor) {
            for (int i = 0; i < row.length; i++) {
                row[i] = field.times(row[i], factor);
            }
        }

        long dot(long[] x, long[] y) {
            long sum = 0;
            for (int i = 0; i < x.length && i < y.length; i++) {
                sum = field.plus(sum, field.times(x[i], y[i]));
            }
            return sum;
        }

        /** s x + t y */
        long[] sum(long s, long[] x, long t, long[] y) {
            long[] result = new long[width];
            for (int i = 0; i < width; i++) {
                result[i] = field.plus(field.times(s, x[i]), field.times(t, y[i]));
            }
            return result;
        }

        long[] image(long[] square, long[] x) {
            long[] result = new long[width];
            imageInto(result, square, x);
            return result;
        }

        private void imageInto(long[] result, long[] square, long[] x) {
            for (int i = 0; i < width; i++) {
                long sum = 0;
                for (int j = 0; j < width; j++) {
                    sum = field.plus(sum, field.times(square[i * width + j], x[j]));
                }
                result[i] = sum;
            }
        }

        /** The sum of all Qij xi yj. */
        long form(long[] square, long[] x, long[] y) {
            return dot(x, image(square, y));
        }

        long[] turned(long[] square) {
            long[] result = new long[width * width];
            for (int i = 0; i < width; i++) {
                for (int j = 0; j < width; j++) {
                    result[j * width + i] = square[i * width + j];
                }
            }
            return result;
        }

        long[] product(long[] a, long[] b) {
            long[] result = new long[width * width];
            for (int i = 0; i < width; i++) {
                for (int j = 0; j < width; j++) {
                    long sum = 0;
                    for (int k = 0; k < width; k++) {
                        sum = field.plus(sum, field.times(a[i * width + k], b[k * width + j]));
                    }
                    result[i * width + j] = sum;
                }
            }
            return result;
        }

        /** A square done so many times (one at least). */
        long[] power(long[] square, int times) {
            long[] result = square;
            long[] doubled = square;
            for (int left = times - 1; left > 0; left >>= 1) {
                if ((left & 1) == 1) {
                    result = product(result, doubled);
                }
                doubled = product(doubled, doubled);
            }
            return result;
        }

        /** Null if there is no inverse. */
        long[] inverted(long[] square) {
            long[][] grid = linesOf(square, 2 * width);
            for (int i = 0; i < width; i++) {
                grid[i][width + i] = 1;
            }
            if (eliminate(grid, width) != width) {
                return null;
            }
            long[] result = new long[width * width];
            for (int i = 0; i < width; i++) {
                System.arraycopy(grid[i], width, result, i * width, width);
            }
            return result;
        }

        int rankOfSquare(long[] square) {
            return eliminate(linesOf(square, width), width);
        }

        int rankOf(long[][] lines) {
            long[][] grid = new long[lines.length][];
            for (int i = 0; i < lines.length; i++) {
                grid[i] = lines[i].clone();
            }
            return lines.length == 0 ? 0 : eliminate(grid, grid[0].length);
        }

        /** The lines of a square, with zeros behind them up to the given length. */
        private long[][] linesOf(long[] square, int length) {
            long[][] grid = new long[width][length];
            for (int i = 0; i < width; i++) {
                System.arraycopy(square, i * width, grid[i], 0, width);
            }
            return grid;
        }

        /** Brings the first columns into steps, 1 alone in each step's column; how many steps. */
        int eliminate(long[][] grid, int columns) {
            int steps = 0;
            for (int c = 0; c < columns && steps < grid.length; c++) {
                int found = steps;
                while (found < grid.length && grid[found][c] == 0) {
                    found++;
                }
                if (found == grid.length) {
                    continue;
                }
                long[] line = grid[found];
                grid[found] = grid[steps];
                grid[steps] = line;
                scale(line, field.reciprocal(line[c]));
                clearColumn(grid, steps, c);
                steps++;
            }
            return steps;
        }

        private void clearColumn(long[][] grid, int step, int c) {
            for (int r = 0; r < grid.length; r++) {
                long factor = grid[r][c];
                if (r == step || factor == 0) {
                    continue;
                }
                for (int k = 0; k < grid[r].length; k++) {
                    long less = field.times(factor, grid[step][k]);
                    grid[r][k] = field.minus(grid[r][k], less);
                }
            }
        }

        /** The row whose product with each line is 0; null if there is none, or more than one. */
        long[] onlySolution(long[][] lines, int columns) {
            if (eliminate(lines, columns) != columns - 1) {
                return null;
            }
            int free = 0;
            while (free < columns - 1 && lead(lines[free]) == free) {
                free++;
            }
            long[] solution = new long[columns];
            solution[free] = 1;
            for (int r = 0; r < columns - 1; r++) {
                solution[r < free ? r : r + 1] = field.negative(lines[r][free]);
            }
            return solution;
        }

        /** The unit points, then the point of ones. */
        long[] framePoint(int k) {
            long[] point = new long[width];
            if (k >= 0 && k < width) {
                point[k] = 1;
            } else {
                Arrays.fill(point, 1L);
            }
            return point;
        }

        /** The square that takes the frame's points to these; null if they are no frame. */
        long[] frameOf(long[][] points) {
            long[][] grid = new long[width][width + 1];
            for (int i = 0; i < width; i++) {
                for (int j = 0; j <= width; j++) {
                    grid[i][j] = points[j][i];
                }
            }
            if (eliminate(grid, width) != width) {
                return null;
            }
            long[] result = new long[width * width];
            for (int j = 0; j < width; j++) {
                long factor = grid[j][width];
                // Without this point's share, the last one depends on the others.
                if (factor == 0) {
                    return null;
                }
                for (int i = 0; i < width; i++) {
                    result[i * width + j] = field.times(factor, points[j][i]);
                }
            }
            return result;
        }

        /** How many times a square takes a normal point until it is back; 0 if not within most. */
        int timesUntilBack(long[] square, long[] point, int most) {
            long[] here = point.clone();
            long[] next = new long[width];
            for (int times = 1; times <= most; times++) {
                imageInto(next, square, here);
                if (isMultiple(next, point)) {
                    return times;
                }
                long[] spare = here;
                here = next;
                next = spare;
            }
            return 0;
        }

        private boolean isMultiple(long[] row, long[] normalOne) {
            int first = lead(normalOne);
            if (first >= row.length) {
                return false;
            }
            for (int i = 0; i < row.length; i++) {
                if (row[i] != field.times(row[first], normalOne[i])) {
                    return false;
                }
            }
            return true;
        }
    }

    /**
     * What belongs together in the plane or in space. A wedge is the list of all xi yj - xj yi
     * with i before j, of two rows x, y; flipped, it is that of the dual.
     */
    private static final class Space {
        final Rows rows;
        final Field field;
        final int width;

        Space(Rows rows) {
            this.rows = rows;
            this.field = rows.field;
            this.width = rows.width;
        }

        long[] wedge(long[] x, long[] y) {
            long[] result = new long[width * (width - 1) / 2];
            int k = 0;
            for (int i = 0; i < width; i++) {
                for (int j = i + 1; j < width; j++) {
                    result[k] = field.minus(field.times(x[i], y[j]), field.times(x[j], y[i]));
                    k++;
                }
            }
            return result;
        }

        /** Turns 01 02 12 into 12 -02 01, and 01 02 03 12 13 23 into 23 -13 12 03 -02 01. */
        long[] flipped(long[] wedge) {
            long[] result = new long[wedge.length];
            for (int k = 0; k < wedge.length; k++) {
                long v = wedge[wedge.length - 1 - k];
                result[k] = k % 3 == 1 ? field.negative(v) : v;
            }
            return result;
        }

        /** The square of all Lij of a wedge. */
        private long[] skew(long[] wedge) {
            long[] result = new long[width * width];
            int k = 0;
            for (int i = 0; i < width; i++) {
                for (int j = i + 1; j < width; j++) {
                    result[i * width + j] = wedge[k];
                    result[j * width + i] = field.negative(wedge[k]);
                    k++;
                }
            }
            return result;
        }

        private boolean isPlane() {
            return width == 3;
        }

        long[] lineThrough(long[] x, long[] y) {
            long[] result = wedge(x, y);
            return isPlane() ? flipped(result) : result;
        }

        /** Of two lines of the plane the point, of two planes the line; zeros if they are one. */
        long[] crossing(long[] u, long[] v) {
            return flipped(wedge(u, v));
        }

        /** Of a line of space and a point; zeros if the point is on the line. */
        long[] planeThrough(long[] line, long[] point) {
            return rows.image(skew(flipped(line)), point);
        }

        /** Of a line of space and a plane; zeros if the line is on the plane. */
        long[] pointOnPlane(long[] line, long[] plane) {
            return rows.image(skew(line), plane);
        }

        /** Of two lines of space; null if they are the same, or do not meet. */
        long[] pointOfLines(long[] a, long[] b) {
            if (!linesMeet(a, b)) {
                return null;
            }
            long[][] planes = baseOfWedge(flipped(b));
            for (int k = 0; k < planes.length; k++) {
                long[] point = pointOnPlane(a, planes[k]);
                if (!Rows.isZero(point)) {
                    return point;
                }
            }
            return null;
        }

        /** Of two lines of space; null if they are the same, or do not meet. */
        long[] planeOfLines(long[] a, long[] b) {
            return pointOfLines(flipped(a), flipped(b));
        }

        /** Of a row with itself: whether it is that of a line. */
        boolean linesMeet(long[] a, long[] b) {
            return rows.dot(a, flipped(b)) == 0;
        }

        boolean lineIsOnPlane(long[] line, long[] plane) {
            return Rows.isZero(pointOnPlane(line, plane));
        }

        boolean pointIsOnLine(long[] point, long[] line) {
            return Rows.isZero(planeThrough(line, point));
        }

        long[][] baseOfLine(long[] line) {
            return baseOfWedge(isPlane() ? flipped(line) : line);
        }

        private long[][] baseOfWedge(long[] wedge) {
            long[] square = skew(wedge);
            for (int i = 0; i < width; i++) {
                for (int j = i + 1; j < width; j++) {
                    long v = square[i * width + j];
                    if (v != 0) {
                        // Line i of the square is xi y - yi x, so it is 0 at i and v at j.
                        long factor = field.reciprocal(v);
                        return new long[][] {
                            lineOf(square, j, field.negative(factor)), lineOf(square, i, factor)};
                    }
                }
            }
            return new long[2][width];
        }

        private long[] lineOf(long[] square, int i, long factor) {
            long[] result = new long[width];
            for (int j = 0; j < width; j++) {
                result[j] = field.times(factor, square[i * width + j]);
            }
            return result;
        }

        /** The image of a line of space. */
        long[] lineImage(long[] map, long[] line) {
            long[][] base = baseOfLine(line);
            return wedge(rows.image(map, base[0]), rows.image(map, base[1]));
        }

        /** Of four rows of rank 2. */
        long crossRatio(long[][] four) {
            int k = placeOfBrackets(four);
            long upper = field.times(
                bracket(four[0], four[2], k), bracket(four[1], four[3], k));
            long lower = field.times(
                bracket(four[1], four[2], k), bracket(four[0], four[3], k));
            if (lower == 0) {
                return upper == 0 ? NONE : field.p;
            }
            return field.times(upper, field.reciprocal(lower));
        }

        /** The row that has the cross ratio v with three different ones of rank 2. */
        long[] fourthOf(long[][] three, long v) {
            if (v == field.p) {
                return three[0];
            }
            int k = placeOfBrackets(three);
            long s = field.times(v, bracket(three[1], three[2], k));
            long t = field.negative(bracket(three[0], three[2], k));
            return rows.sum(s, three[0], t, three[1]);
        }

        /** Wedges of rows of rank 2 are multiples of one: a place where that one is not 0. */
        private int placeOfBrackets(long[][] lines) {
            for (int k = 1; k < lines.length; k++) {
                long[] found = wedge(lines[0], lines[k]);
                if (!Rows.isZero(found)) {
                    return Rows.lead(found);
                }
            }
            return 0;
        }

        private long bracket(long[] x, long[] y, int k) {
            return wedge(x, y)[k];
        }

        /** A line for each point: what the numbers Qij with i up to j are multiplied with. */
        long[][] quadricConditions(long[][] points) {
            long[][] result = new long[points.length][width * (width + 1) / 2];
            for (int r = 0; r < points.length; r++) {
                int k = 0;
                for (int i = 0; i < width; i++) {
                    for (int j = i; j < width; j++) {
                        long v = field.times(points[r][i], points[r][j]);
                        result[r][k] = i == j ? v : field.plus(v, v);
                        k++;
                    }
                }
            }
            return result;
        }

        /** Null if there is no such quadric, or more than one. */
        long[] quadricThrough(long[][] points) {
            int unknown = width * (width + 1) / 2;
            long[] numbers = rows.onlySolution(quadricConditions(points), unknown);
            if (numbers == null) {
                return null;
            }
            long[] result = new long[width * width];
            int k = 0;
            for (int i = 0; i < width; i++) {
                for (int j = i; j < width; j++) {
                    result[i * width + j] = numbers[k];
                    result[j * width + i] = numbers[k];
                    k++;
                }
            }
            return result;
        }

        /** The point of a line at step t in its order; step p is the second row of its base. */
        long[] pointAt(long[][] base, long t) {
            return t == field.p ? base[1] : rows.sum(1, base[0], t, base[1]);
        }

        /** The steps, in order, of a line's points that are on a quadric; null if all are. */
        long[] stepsOnQuadric(long[] square, long[][] base) {
            long c = rows.form(square, base[0], base[0]);
            long b = rows.form(square, base[0], base[1]);
            long a = rows.form(square, base[1], base[1]);
            // Step t is on the quadric, if a t t + 2 b t + c is 0; step p, if a is 0.
            if (a != 0) {
                return stepsOfSquare(a, b, c);
            }
            if (b != 0) {
                long twice = field.plus(b, b);
                long t = field.negative(field.times(c, field.reciprocal(twice)));
                return new long[] {t, field.p};
            }
            return c == 0 ? null : new long[] {field.p};
        }

        private long[] stepsOfSquare(long a, long b, long c) {
            long root = field.squareRoot(field.minus(field.times(b, b), field.times(a, c)));
            if (root < 0) {
                return new long[0];
            }
            long byA = field.reciprocal(a);
            long less = field.times(byA, field.minus(field.negative(root), b));
            long more = field.times(byA, field.minus(root, b));
            if (less == more) {
                return new long[] {less};
            }
            return new long[] {Math.min(less, more), Math.max(less, more)};
        }
    }
}
