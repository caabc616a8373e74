import java.math.BigInteger;
import java.util.Arrays;
import java.util.List;

/**
 * The least and the greatest that each promise takes, what is empty and what wraps around, promise
 * by promise, in the plane and in space. What is refused stands in RefusedTest and FullTest.
 */
public final class EdgesTest {
    private static final int NONE = Check.NONE, BAD = Check.BAD;
    private static final int POINT = 0, LINE = 1, PLANE = 2, MAP = 3, QUADRIC = 4;
    private static final int A = Scene.A, B = Scene.B, C = Scene.C, E = Scene.E, G = Scene.G;
    private static final int U = Scene.U, W = Scene.W, S = Scene.S;
    private static final int GREATEST = Integer.MAX_VALUE;
    private static final int[] PRIMES = {3, 5, 101, 2147483629, GREATEST};
    private static final List<Scene> BOTH = List.of(Scene.of(2), Scene.of(3));

    public static void main(String[] args) {
        newObject();
        begin();
        beginLeavesNothing();
        put();
        handIsZeroAtFirst();
        eachNumberInHand();
        firstNumberIsOne();
        numbersBehindDoNotCount();
        numberAndSort();
        on();
        crossAndFourth();
        pairAndMap();
        mapIsObject0();
        order();
        gatherAndForget();
        quadric();
        rank();
        linesAndQuadrics();
        root();
        ideal();
        parallel();
        middle();
        told();
        eachChangesItsOwn();
        lastCall();
        Check.end("EdgesTest");
    }

    private static void due(String what, long got, long want) {
        Check.due(what, got, want);
    }

    private static Asked begun(int n, int p) {
        Asked x = new Asked();
        due("begin(" + n + ", " + p + ")", x.begin(n, p), 1);
        return x;
    }

    private static void row(Asked x, String what, int a, int sort, long... want) {
        due(what + ": SORT", x.sort(a), sort);
        for (int i = 0; i < want.length; i++) {
            due(what + ": number " + i, x.number(a, i), want[i]);
        }
    }

    /** The row as the object has it: with 1 first, and all numbers 0 .. p - 1. */
    private static long[] normal(long[] row, int p) {
        BigInteger prime = BigInteger.valueOf(p);
        BigInteger factor = null;
        long[] result = new long[row.length];
        for (int i = 0; i < row.length; i++) {
            BigInteger v = BigInteger.valueOf(row[i]).mod(prime);
            if (factor == null && v.signum() != 0) {
                factor = v.modInverse(prime);
            }
            result[i] = factor == null ? 0 : v.multiply(factor).mod(prime).longValue();
        }
        return result;
    }

    private static void newObject() {
        Asked x = new Asked();
        int[] want = {2, 3, 0, 0, 0, NONE};
        for (int what = 0; what < want.length; what++) {
            due("1: told(" + what + ")", x.told(what), want[what]);
        }
        for (int sort = POINT; sort <= QUADRIC; sort++) {
            due("1: nothing in hand, SORT " + sort, x.make(sort), sort == PLANE ? BAD : NONE);
        }
        due("1: modulo 3", x.put(0, 3), 0);
        due("1: modulo 3", x.put(0, -1), 2);
        due("1: the first OBJECT", x.make(POINT), 0);
        due("1: as behind begin(2, 3)",
            Arrays.mismatch(Scene.all(new Asked(), 2), Scene.all(begun(2, 3), 2)), -1);
    }

    private static void begin() {
        for (int n = 2; n <= 3; n++) {
            for (int p : new int[] {3, 5, 7, 11, 46337, 46349, 2147483629, GREATEST}) {
                Asked x = begun(n, p);
                due("2: n", x.told(0), n);
                due("2: p", x.told(1), p);
                due("2: reckoned modulo p", x.put(0, -1), p - 1);
                due("2: PLANE is of space alone", x.make(PLANE), n == 2 ? BAD : 0);
            }
        }
    }

    /** All OBJECTS, what is in hand, gathered, paired go; and so does what was THE IDEAL one. */
    private static void beginLeavesNothing() {
        for (Scene scene : BOTH) {
            for (Scene used : List.of(scene, scene.full())) {
                for (int n = 2; n <= 3; n++) {
                    for (int p : new int[] {3, Scene.P, GREATEST}) {
                        Asked x = used.build();
                        due("2: begin", x.begin(n, p), 1);
                        due("2: all goes", Arrays.mismatch(Scene.all(x, n),
                            Scene.all(begun(n, p), n)), -1);
                    }
                }
            }
            Asked x = scene.build();
            due("2: begin", x.begin(scene.n, Scene.P), 1);
            for (int sort = POINT; sort <= QUADRIC; sort++) {
                due("2: nothing in hand", x.make(sort),
                    scene.n == 2 && sort == PLANE ? BAD : NONE);
            }
        }
    }

    private static void put() {
        for (int n = 2; n <= 3; n++) {
            for (int p : PRIMES) {
                Asked x = begun(n, p);
                long q = p;
                for (long v : new long[] {0, 1, -1, q - 1, q, q + 1, -q, -q - 1, 1 - q, 2 * q,
                    q * q, -q * q, q * q - 1, 1L << 31, 1L << 32, -1L << 31, -1L << 32,
                    Long.MAX_VALUE, Long.MIN_VALUE, Long.MIN_VALUE + 1}) {
                    long want = BigInteger.valueOf(v).mod(BigInteger.valueOf(q)).longValue();
                    due("3: put(0, " + v + ") modulo " + p, x.put(0, v), want);
                    due("3: put(15, " + v + ") modulo " + p, x.put(15, v), want);
                }
            }
        }
    }

    private static void handIsZeroAtFirst() {
        for (int n = 2; n <= 3; n++) {
            for (int i = 0; i <= n; i++) {
                Asked x = begun(n, 7);
                x.put(i, 4);
                long[] want = new long[n + 1];
                want[i] = 1;
                row(x, "3: all others are 0", x.make(POINT), POINT, want);
            }
        }
    }

    /** Numbers 0 .. 15 each stand at their place, and stay in hand when something is made. */
    private static void eachNumberInHand() {
        for (int n = 2; n <= 3; n++) {
            int size = (n + 1) * (n + 1);
            for (int place = 1; place < size; place++) {
                Asked x = begun(n, 101);
                long[] square = new long[size];
                for (int k = 0; k < size; k += n + 2) {
                    square[k] = 1;
                }
                x.hold(square);
                due("3: unit", x.make(MAP), 0);
                due("3: put", x.put(place, 5), 5);
                square[place] = 5;
                row(x, "3: number " + place, x.make(MAP), MAP, square);
                due("3: it stays in hand", x.make(MAP), 1);
            }
        }
    }

    private static void firstNumberIsOne() {
        for (int n = 2; n <= 3; n++) {
            for (int p : PRIMES) {
                Asked x = begun(n, p);
                for (int lead = 0; lead <= n; lead++) {
                    for (int sort : new int[] {POINT, n - 1}) {
                        long[] row = new long[n + 1];
                        for (int i = lead; i <= n; i++) {
                            row[i] = -2 - i;
                        }
                        row[lead] = p - 1;
                        int a = x.row(sort, row);
                        row(x, "4: the first is 1", a, sort, normal(row, p));
                        row[n] += p;
                        due("4: the same modulo p", x.row(sort, row), a);
                    }
                }
                squareBeginsWithOne(x, n, p);
                for (int place = 0; n == 3 && place < 6; place++) {
                    long[] row = new long[6];
                    row[place] = p - 1;
                    row(x, "4: LINE of space", x.row(LINE, row), LINE, normal(row, p));
                }
            }
        }
    }

    private static void squareBeginsWithOne(Asked x, int n, int p) {
        long[] square = new long[(n + 1) * (n + 1)];
        for (int i = 0; i <= n; i++) {
            square[i * (n + 1) + n - i] = p - 1;
        }
        square[n] = 2;
        square[n * (n + 1)] = 2;
        row(x, "4: MAP", x.row(MAP, square), MAP, normal(square, p));
        row(x, "4: QUADRIC", x.make(QUADRIC), QUADRIC, normal(square, p));
        long[] last = new long[square.length];
        last[last.length - 1] = 2;
        row(x, "4: QUADRIC of RANK 1", x.row(QUADRIC, last), QUADRIC, normal(last, p));
    }

    private static void numbersBehindDoNotCount() {
        for (int n = 2; n <= 3; n++) {
            for (int sort = POINT; sort <= QUADRIC; sort++) {
                int length = Scene.lengthOf(n, sort);
                if (length == 0) {
                    continue;
                }
                Asked x = begun(n, 7);
                for (int i = length - 1; i >= 0; i -= sort < MAP ? length : n + 2) {
                    x.put(i, 1);
                }
                int made = x.make(sort);
                due("4: made", made, 0);
                for (int i = length; i < 16; i++) {
                    due("4: put behind", x.put(i, 3), 3);
                }
                due("4: numbers behind do not count", x.make(sort), made);
            }
        }
    }

    private static void numberAndSort() {
        for (Scene scene : BOTH) {
            for (int sort = POINT; sort <= QUADRIC; sort++) {
                int last = Scene.lengthOf(scene.n, sort) - 1;
                if (last < 0) {
                    continue;
                }
                int a = Scene.some(sort);
                int kind = sort;
                scene.leaves("6: SORT", x -> x.sort(a), kind);
                for (int i = 0; i <= last; i++) {
                    int place = i;
                    int number = scene.build().number(a, place);
                    Check.due("5: number " + i + " of SORT " + sort, number >= 0);
                    scene.leaves("5: it is asked alone", x -> x.number(a, place), number);
                }
            }
            scene.full().leaves("6: the 60th OBJECT", x -> x.sort(59), QUADRIC);
            scene.full().leaves("5: the 60th OBJECT", x -> x.number(59, 0), 1);
            scene.leaves("6: the first OBJECT", x -> x.sort(0), POINT);
        }
    }

    /** Nothing is changed by what is asked; here and with 60 OBJECTS. */
    private static void on() {
        Scene space = BOTH.get(1);
        space.leavesAlways("9: LINES that are the same", x -> x.on(U, U), 1);
        space.leavesAlways("9: LINES with a POINT ON both", x -> x.on(U, Scene.V), 1);
        space.leavesAlways("9: LINES without", x -> x.on(U, S), 0);
        for (Scene scene : BOTH) {
            scene.leavesAlways("9: a POINT ON the LINE", x -> x.on(G, U), 1);
            scene.leavesAlways("9: in any order", x -> x.on(U, G), 1);
            scene.leavesAlways("9: not ON it", x -> x.on(C, U), 0);
        }
    }

    /** v is 0 .. p: of POINTS, and of LINES or PLANES. */
    private static void crossAndFourth() {
        for (int n = 2; n <= 3; n++) {
            for (int p : PRIMES) {
                for (int sort : new int[] {POINT, n - 1}) {
                    Asked x = begun(n, p);
                    int a = x.row(sort, n == 2 ? new long[] {0, 1, 2} : new long[] {0, 0, 1, 2});
                    int b = x.row(sort, n == 2 ? new long[] {1, 1, -1} : new long[] {1, 1, 1, -1});
                    int c = x.row(sort, n == 2 ? new long[] {1, 2, 1} : new long[] {1, 1, 2, 1});
                    due("11: v is 0", x.fourth(a, b, c, 0), b);
                    due("11: v is 1", x.fourth(a, b, c, 1), c);
                    due("11: v is p", x.fourth(a, b, c, p), a);
                    due("11: v is p + 1", x.fourth(a, b, c, p + 1L), BAD);
                    for (long v : new long[] {0, 1, 2, p / 2 + 1, p - 1, p}) {
                        int d = x.fourth(a, b, c, v);
                        due("10: the ratio is " + v, x.cross(a, b, c, d), v);
                        due("11: the SORT", x.sort(d), sort);
                    }
                }
            }
        }
    }

    private static void pairAndMap() {
        for (Scene scene : BOTH) {
            Asked x = scene.quiet().build();
            due("12: none at first", x.told(4), 0);
            for (int k = 0; k <= scene.n; k++) {
                due("12: how many", x.pair(k, (k + 1) % (scene.n + 1)), k + 1);
            }
            due("12: n + 2", Scene.lastPair(x, scene.n), scene.n + 2);
            Check.due("13: a MAP", x.map() >= 0);
            due("13: no PAIR is left", x.told(4), 0);
            due("13: so there is no MAP", x.map(), NONE);
            due("12: the first again", x.pair(A, A), 1);
            due("12: the same once more", x.pair(A, A), 2);
        }
    }

    /** The least answer of map: the MAP was there before all POINTS. */
    private static void mapIsObject0() {
        for (int n = 2; n <= 3; n++) {
            Asked x = begun(n, 5);
            long[] same = new long[(n + 1) * (n + 1)];
            for (int i = 0; i <= n; i++) {
                same[i * (n + 2)] = 1;
            }
            due("4: the MAP that leaves all", x.row(MAP, same), 0);
            for (int k = 0; k <= n + 1; k++) {
                long[] point = new long[n + 1];
                Arrays.fill(point, k <= n ? 0 : 1);
                if (k <= n) {
                    point[k] = 1;
                }
                int a = x.row(POINT, point);
                due("12: how many", x.pair(a, a), k + 1);
            }
            due("13: the MAP that there is", x.map(), 0);
            due("13: no PAIR is left", x.told(4), 0);
            due("12: the first again", x.pair(1, 1), 1);
        }
    }

    private static long power(long v, long exponent, long p) {
        return BigInteger.valueOf(v).modPow(BigInteger.valueOf(exponent), BigInteger.valueOf(p))
            .longValue();
    }

    /** A number that comes back to 1 after so many factors, and no fewer. */
    private static long ofOrder(int order, int p) {
        due("17: a divisor", (p - 1) % order, 0);
        for (long v = 1; v < p; v++) {
            long candidate = power(v, (p - 1) / order, p);
            boolean isExact = true;
            for (int less = 1; less < order && isExact; less++) {
                isExact = order % less != 0 || power(candidate, less, p) != 1;
            }
            if (isExact) {
                return candidate;
            }
        }
        return 0;
    }

    private static void order() {
        Scene.of(2).leavesAlways("17: it is asked alone", x -> x.order(Scene.N), 3);
        Scene.of(3).leavesAlways("17: it is asked alone", x -> x.order(Scene.N), 4);
        // 3000 is 8 times 3 times 125, and 1001 divides 6006.
        int[][] primeOrdersWant = {{3001, 1, 1, 1}, {3001, 1000, 1, 1000}, {3001, 1, 1000, 1000},
            {3001, 8, 125, 1000}, {3001, 125, 8, 1000}, {3001, 1000, 500, 1000},
            {3001, 500, 1000, 1000}, {3001, 100, 250, 500}, {3001, 600, 1000, NONE},
            {3001, 1500, 1, NONE}, {3001, 375, 8, NONE}, {3001, 750, 500, NONE},
            {6007, 1001, 1, NONE}, {6007, 1, 1001, NONE}, {6007, 7, 143, NONE},
            {6007, 91, 11, NONE}, {6007, 143, 91, NONE}, {6007, 462, 77, 462},
            {6007, 858, 2, 858}};
        for (int[] one : primeOrdersWant) {
            long a = ofOrder(one[1], one[0]);
            long b = ofOrder(one[2], one[0]);
            Asked x = begun(2, one[0]);
            String what = "17: orders " + one[1] + ", " + one[2];
            due(what, x.order(x.row(MAP, 1, 0, 0, 0, a, 0, 0, 0, b)), one[3]);
            due(what, x.order(x.row(MAP, a, 0, 0, 0, b, 0, 0, 0, 1)), one[3]);
            x = begun(3, one[0]);
            due(what, x.order(x.row(MAP, 1, 0, 0, 0, 0, a, 0, 0, 0, 0, b, 0, 0, 0, 0, 1)), one[3]);
            due(what, x.order(x.row(MAP, a, 0, 0, 0, 0, a, 0, 0, 0, 0, 1, 0, 0, 0, 0, b)), one[3]);
        }
        for (int n = 2; n <= 3; n++) {
            for (int p : new int[] {3, 5, 997, 1009, GREATEST}) {
                Asked x = begun(n, p);
                long[] shift = new long[(n + 1) * (n + 1)];
                for (int k = 0; k < shift.length; k += n + 2) {
                    shift[k] = p - 1;
                }
                due("17: nothing moves", x.order(x.row(MAP, shift)), 1);
                shift[n] = 1;
                due("17: p times", x.order(x.row(MAP, shift)), p <= 1000 ? p : NONE);
            }
        }
    }

    private static void gatherAndForget() {
        for (Scene scene : BOTH) {
            Asked x = scene.quiet().build();
            due("19: nothing", x.forget(), 0);
            for (int k = 1; k <= 9; k++) {
                due("18: how many", x.gather(k % 2 == 0 ? A : B), k);
            }
            due("31: gathered", x.told(3), 9);
            due("19: how many were", x.forget(), 9);
            due("31: gathered", x.told(3), 0);
            due("19: none now", x.forget(), 0);
            due("18: the first again", x.gather(A), 1);
            due("19: one", x.forget(), 1);
        }
    }

    private static void quadric() {
        Asked x = begun(2, 101);
        for (int t = 0; t < 9; t++) {
            due("20: gathered", x.gather(x.row(POINT, 1, t, t * t)), t + 1);
            int q = x.quadric();
            Check.due("20: five are enough", t < 4 ? q == NONE : q >= 0);
        }
        row(x, "20: nine", x.quadric(), QUADRIC, 0, 0, 1, 0, 99, 0, 1, 0, 0);
        due("20: all stay gathered", x.told(3), 9);
        for (Scene scene : BOTH) {
            Asked y = scene.build();
            due("20: one is missing", y.quadric(), NONE);
            y.gather(E);
            int q = y.quadric();
            for (int a = A; a <= E; a++) {
                due("20: ON it", y.on(a, q), 1);
            }
            due("20: once more", y.quadric(), q);
        }
        Asked least = begun(2, 3);
        for (int t = 0; t < 9; t++) {
            least.gather(least.row(POINT, 1, t / 3, t));
        }
        due("20: all nine that are not ON x0 = 0, modulo 3: none", least.quadric(), NONE);
    }

    private static void rank() {
        for (Scene scene : BOTH) {
            scene.leavesAlways("21: RANK n + 1", x -> x.rank(Scene.Q), scene.n + 1);
            scene.leavesAlways("21: RANK n", x -> x.rank(Scene.R), scene.n);
        }
        for (int n = 2; n <= 3; n++) {
            for (int p : PRIMES) {
                Asked x = begun(n, p);
                x.hold(new long[(n + 1) * (n + 1)]);
                for (int i = 0; i <= n; i++) {
                    x.put(i * (n + 2), -1 - i % 2);
                    due("21: RANK", x.rank(x.make(QUADRIC)), i + 1);
                }
                long[] ones = new long[(n + 1) * (n + 1)];
                Arrays.fill(ones, p - 1);
                due("21: RANK 1 of all", x.rank(x.row(QUADRIC, ones)), 1);
            }
        }
    }

    /**
     * Each two places at which a LINE's BASE can have its ones. On the LINE, x at the first place
     * is 1 and at the second one t, so that a QUADRIC of these two numbers has the t that it is
     * made for.
     */
    private static void linesAndQuadrics() {
        for (int n = 2; n <= 3; n++) {
            for (int p : PRIMES) {
                for (int i = 0; i < n; i++) {
                    for (int j = i + 1; j <= n; j++) {
                        new OnALine(n, p, i, j).ask();
                    }
                }
            }
        }
    }

    private static final class OnALine {
        final int n;
        final int p;
        final int i;
        final int j;
        final long[] first;
        final long[] second;
        final Asked x;
        final int line;

        OnALine(int n, int p, int i, int j) {
            this.n = n;
            this.p = p;
            this.i = i;
            this.j = j;
            first = new long[n + 1];
            second = new long[n + 1];
            for (int k = i; k <= n; k++) {
                first[k] = k == i ? 1 : k == j ? 0 : p - 1;
                second[k] = k < j ? 0 : k == j ? 1 : 2 % p;
            }
            x = begun(n, p);
            line = n == 2 ? x.row(LINE, outside()) : x.row(LINE, wedge());
            Check.due("24: a LINE", line >= 0);
        }

        /** Of a LINE or PLANE with the LINE. */
        private long[] outside() {
            int k = 0;
            while (k == i || k == j) {
                k++;
            }
            long[] row = new long[n + 1];
            row[k] = 1;
            row[i] = -first[k];
            row[j] = -second[k];
            return row;
        }

        private long[] wedge() {
            long[] row = new long[6];
            int at = 0;
            for (int k = 0; k < 4; k++) {
                for (int l = k + 1; l < 4; l++) {
                    row[at] = first[k] * second[l] % p - first[l] * second[k] % p;
                    at++;
                }
            }
            return row;
        }

        private long[] at(long t) {
            if (t == p) {
                return second;
            }
            long[] row = new long[n + 1];
            for (int k = 0; k <= n; k++) {
                row[k] = first[k] + t * second[k] % p;
            }
            return normal(row, p);
        }

        /** ii, ij and jj are the numbers at the two places. */
        private int quadricOf(long ii, long ij, long jj) {
            long[] square = new long[(n + 1) * (n + 1)];
            square[i * (n + 1) + i] = ii;
            square[i * (n + 1) + j] = ij;
            square[j * (n + 1) + i] = ij;
            square[j * (n + 1) + j] = jj;
            return x.row(QUADRIC, square);
        }

        private void dueSteps(String what, int q, long... steps) {
            due("23: " + what, x.touches(q, line), steps.length);
            for (int k = 0; k < steps.length; k++) {
                row(x, "24: " + what, x.common(q, line, k), POINT, at(steps[k]));
            }
            due("24: " + what + ", no more", x.common(q, line, steps.length), NONE);
        }

        private void ask() {
            dueSteps("0 and the last", quadricOf(0, 1, 0), 0, p);
            dueSteps("p - 1 and the last", quadricOf(2, 1, 0), p - 1, p);
            dueSteps("0 and p - 1", quadricOf(0, 1, 2), 0, p - 1);
            dueSteps("1 and p - 1", quadricOf(-1, 0, 1), 1, p - 1);
            dueSteps("0 alone", quadricOf(0, 0, 1), 0);
            dueSteps("p - 1 alone", quadricOf(1, 1, 1), p - 1);
            dueSteps("the last alone", quadricOf(1, 0, 0), p);
            long v = 2;
            while (power(v, (p - 1) / 2, p) == 1) {
                v++;
            }
            dueSteps("none", quadricOf(-v, 0, 1));
            askAll();
        }

        /** A LINE or PLANE with the LINE, twice, is a QUADRIC that has all of it. */
        private void askAll() {
            long[] u = outside();
            long[] square = new long[(n + 1) * (n + 1)];
            for (int k = 0; k < square.length; k++) {
                square[k] = u[k / (n + 1)] % p * (u[k % (n + 1)] % p);
            }
            int q = x.row(QUADRIC, square);
            due("23: p + 1", x.touches(q, line), p + 1L);
            for (long k : new long[] {0, 1, 2, p - 2, p - 1, p}) {
                row(x, "24: the one at " + k, x.common(q, line, (int) k), POINT, at(k));
            }
            if (p < GREATEST) {
                due("24: the one at p + 1", x.common(q, line, p + 1), NONE);
            }
        }
    }

    private static void root() {
        for (int n = 2; n <= 3; n++) {
            for (int p : new int[] {3, 5, 7, 13, 17, 65537, 998244353, 2147483629, GREATEST}) {
                Asked x = begun(n, p);
                long half = (p - 1) / 2;
                for (long times = -2; times <= 2; times++) {
                    due("25: 0", x.root(times * p), 0);
                    due("25: 1", x.root(times * p + 1), 1);
                    due("25: 4", x.root(times * p + 4), Math.min(2, p - 2));
                    due("25: the greatest", x.root(times * p + half * half % p), half);
                }
                due("25: p - 1, the greatest number", x.root(p - 1) >= 0 ? 1 : 0,
                    p % 4 == 1 ? 1 : 0);
                for (long v : new long[] {Long.MIN_VALUE, Long.MIN_VALUE + 1, -1L << 32, -1, 2, 3,
                    1L << 32, Long.MAX_VALUE - 1, Long.MAX_VALUE}) {
                    dueRoot(x, v, p);
                }
            }
        }
    }

    private static void dueRoot(Asked x, long v, int p) {
        BigInteger prime = BigInteger.valueOf(p);
        BigInteger number = BigInteger.valueOf(v).mod(prime);
        boolean isSquare = power(number.longValue(), (p - 1) / 2, p) <= 1;
        long root = x.root(v);
        Check.due("25: root(" + v + ") modulo " + p, isSquare
            ? root >= 0 && root <= (p - 1) / 2 && root * root % p == number.longValue()
            : root == NONE);
    }

    private static void ideal() {
        for (Scene scene : BOTH) {
            Scene quiet = scene.quiet();
            quiet.answers("27: none, at first", x -> x.ideal(W), NONE);
            quiet.then(x -> x.ideal(W)).answers("27: it is, though NONE was", x -> x.told(5), W);
            quiet.then(x -> x.ideal(W)).answers("27: which was", x -> x.ideal(W), W);
            scene.full().answers("27: 60 OBJECTS do not matter", x -> x.ideal(W), W);
            Asked x = begun(scene.n, 7);
            int flat = x.row(scene.n - 1, 1, 0, 0, 0);
            due("27: OBJECT 0", x.ideal(flat), NONE);
            due("31: OBJECT 0 is one", x.told(5), 0);
            int a = x.row(POINT, 1, 0, 0, 0);
            int b = x.row(POINT, 1, 2, 4, 6);
            row(x, "29: by OBJECT 0", x.middle(a, b), POINT, 1, 1, 2);
            due("27: OBJECT 0 was", x.ideal(x.row(scene.n - 1, 0, 1, 0, 0)), 0);
        }
    }

    /** The least prime, where there are few POINTS on each LINE; all that is parallel to one. */
    private static void parallel() {
        for (int p : new int[] {3, GREATEST}) {
            Asked x = begun(2, p);
            x.ideal(x.row(LINE, 1, 0, 0));
            int u = x.row(LINE, 0, 1, p - 1);
            for (long t : new long[] {1, p - 1}) {
                due("28: parallel", x.parallel(u, x.row(LINE, t, 1, p - 1)), 1);
                due("28: not", x.parallel(u, x.row(LINE, t, 1, 1)), 0);
            }
            x = begun(3, p);
            x.ideal(x.row(PLANE, 1, 0, 0, 0));
            u = x.row(PLANE, 0, 1, p - 1, 1);
            for (long t : new long[] {1, p - 1}) {
                due("28: parallel", x.parallel(u, x.row(PLANE, t, 1, p - 1, 1)), 1);
                due("28: not", x.parallel(u, x.row(PLANE, t, 1, 1, 1)), 0);
            }
        }
    }

    private static void middle() {
        for (int n = 2; n <= 3; n++) {
            for (int p : PRIMES) {
                Asked x = begun(n, p);
                x.ideal(x.row(n - 1, 1, 0, 0, 0));
                int a = x.row(POINT, 1, 0, p - 1, 0);
                int b = x.row(POINT, 1, p - 1, p - 1, 0);
                int m = x.middle(a, b);
                row(x, "29: half of p - 1", m, POINT, 1, (p - 1) / 2, p - 1);
                int far = x.row(POINT, 0, 1, 0, 0);
                due("29: the ratio", x.cross(a, b, far, m), p - 1);
                due("29: in any order", x.middle(b, a), m);
                due("29: ON THE IDEAL", x.middle(a, far), NONE);
            }
        }
    }

    private static void told() {
        for (Scene scene : BOTH) {
            Asked x = scene.full().build();
            Scene.lastPair(x, scene.n);
            for (int k = x.told(3); k < 9; k++) {
                x.gather(A);
            }
            long[] want = {scene.n, Scene.P, 60, 9, scene.n + 2, W};
            for (int what = 0; what < want.length; what++) {
                due("31: the most of " + what, x.told(what), want[what]);
            }
        }
        Asked x = begun(3, GREATEST);
        due("31: the greatest p", x.told(1), GREATEST);
    }

    /** What is put, gathered, forgotten, paired or made THE IDEAL one leaves all the rest. */
    private static void eachChangesItsOwn() {
        for (Scene scene : BOTH) {
            int flat = scene.n == 2 ? U : Scene.THROUGH_V;
            int[] was = {scene.n, Scene.P, scene.next(), scene.n == 2 ? 4 : 8, scene.n + 1, W};
            dueTold("put", scene.then(x -> x.put(1, 5)), was, 0, was[0]);
            dueTold("gather", scene.then(x -> x.gather(A)), was, 3, was[3] + 1);
            dueTold("forget", scene.then(x -> x.forget()), was, 3, 0);
            dueTold("pair", scene.then(x -> x.pair(A, A)), was, 4, was[4] + 1);
            dueTold("ideal", scene.then(x -> x.ideal(flat)), was, 5, flat);
            Scene all = scene.then(x -> x.gather(E)).then(x -> x.forget()).then(x -> x.pair(A, A))
                .then(x -> x.ideal(flat));
            all.answers("the hand stays", x -> x.make(MAP), Scene.M);
            scene.without(Scene.IDEAL).then(x -> x.ideal(W)).answers(
                "the hand stays, though NONE was", x -> x.make(MAP), Scene.M);
        }
    }

    private static void dueTold(String what, Scene scene, int[] was, int changed, int now) {
        Asked x = scene.build();
        for (int told = 0; told < was.length; told++) {
            due(what + ": told(" + told + ")", x.told(told), told == changed ? now : was[told]);
        }
    }

    /** The 512th call is promised like the first one. */
    private static void lastCall() {
        for (Scene scene : BOTH) {
            Asked x = scene.full().build();
            for (int k = 0; x.left() > 3; k++) {
                x.put(k % 16, k);
            }
            due("the 510th call", x.told(2), 60);
            due("the 511th call", x.join(A, G), U);
            due("the 512th call", x.cross(A, B, G, A), Scene.P);
            due("no more are asked", x.left(), 0);
        }
    }
}
