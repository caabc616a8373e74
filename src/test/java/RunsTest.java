import java.util.Map;

/**
 * Long runs of calls of all kinds, made on the class and on a second reading of the document
 * (PlainRows): each answer must be the same. Most calls are such that they can be answered.
 */
public final class RunsTest {
    private static final int POINT = 0, LINE = 1, PLANE = 2, MAP = 3, QUADRIC = 4, ANY = 5;
    private static final int RUNS = 400;
    private static final int[][] WORLDS = {{2, 3}, {2, 5}, {2, 7}, {3, 3}, {3, 5}};
    private static final int[] STRANGE = {Integer.MIN_VALUE, -3, -2, -1, 5, 6, 9, 16, 59, 60, 61,
        Integer.MAX_VALUE};
    private static final int[] NO_PRIMES = {Integer.MIN_VALUE, -3, 0, 1, 2, 4, 9, 15, 25, 49, 1000,
        2147483645};
    /** What each run of this test must have met, and not just once or twice. */
    private static final String[] DUE = {
        "begin", "begin BAD", "put", "put BAD", "make", "make NONE", "make BAD", "make FULL",
        "number", "number BAD", "sort", "sort BAD", "join", "join NONE", "join BAD", "join FULL",
        "meet", "meet NONE", "meet BAD", "meet FULL", "on", "on BAD",
        "cross", "cross NONE", "cross BAD", "fourth", "fourth NONE", "fourth BAD", "fourth FULL",
        "pair", "pair BAD", "pair FULL", "map", "map NONE", "map FULL", "apply", "apply BAD",
        "apply FULL", "compose", "compose BAD", "compose FULL", "inverse", "inverse BAD",
        "inverse FULL", "order", "order BAD", "gather", "gather BAD", "gather FULL", "forget",
        "quadric", "quadric NONE", "quadric FULL", "rank", "rank BAD", "polar", "polar NONE",
        "polar BAD", "polar FULL", "touches", "touches BAD", "common", "common NONE", "common BAD",
        "common FULL", "root", "root NONE", "dual", "dual NONE", "dual BAD", "dual FULL",
        "ideal", "ideal NONE", "ideal BAD", "parallel", "parallel NONE", "parallel BAD",
        "middle", "middle NONE", "middle BAD", "middle FULL", "holds", "holds NONE", "holds BAD",
        "told", "told NONE", "told BAD"};

    private final Twins both;
    private final PlainRows plain;
    private final boolean readsRows;
    private Chance chance;
    private int n = 2;
    private int p = 3;

    private RunsTest(int run, Map<String, Integer> answers) {
        both = new Twins("run " + run, answers);
        plain = both.plain();
        // Reading each new row takes so many calls that there are seldom 60 objects.
        readsRows = run % 2 == 0;
        chance = new Chance(PlainRows.worldOf(n, p), 1000003L * run);
        if (run % 10 != 0) {
            begin(WORLDS[run % WORLDS.length]);
        }
    }

    public static void main(String[] args) {
        Map<String, Integer> answers = Twins.noAnswers();
        for (int run = 0; run < RUNS; run++) {
            RunsTest test = new RunsTest(run, answers);
            if (run % 4 == 1) {
                test.fill();
            }
            while (test.both.left() > 0) {
                test.step();
            }
        }
        for (String kind : DUE) {
            int times = answers.getOrDefault(kind, 0);
            Check.due(kind + " was met often enough: " + times, times >= 10);
            answers.remove(kind);
        }
        Check.due("nothing else was answered: " + answers, answers.isEmpty());
        Check.end("RunsTest");
    }

    private void begin(int[] world) {
        if (both.begin(world[0], world[1]) == 1) {
            n = world[0];
            p = world[1];
            chance = new Chance(PlainRows.worldOf(n, p), chance.any(1 << 30));
        }
    }

    /** Makes most of the objects that there may be, each with few calls. */
    private void fill() {
        int most = 54 + any(7);
        for (int k = 0; k < 150 && plain.count() < most; k++) {
            both.put(any((n + 1) * (n + 1)), any(p));
            both.make(any(3) == 0 ? any(5) : MAP);
        }
    }

    private void step() {
        int before = plain.count();
        int way = any(10);
        if (way < 2) {
            make(sortToMake());
        } else if (way < 4) {
            severalCalls();
        } else {
            call(any(26));
        }
        if (readsRows && plain.count() > before) {
            readRow(plain.count() - 1);
        }
    }

    private void readRow(int a) {
        for (int i = 0; i < plain.row(a).length && both.left() > 0; i++) {
            both.number(a, i);
        }
    }

    private int any(int bound) {
        return chance.any(bound);
    }

    private int strange() {
        return STRANGE[any(STRANGE.length)];
    }

    private int number(int bound) {
        return any(15) == 0 ? strange() : any(bound);
    }

    /** Mostly an object of this sort, if there is one. */
    private int object(int sort) {
        int way = any(20);
        if (way == 0 || plain.count() == 0) {
            return strange();
        }
        int a = any(plain.count());
        for (int k = 0; way > 1 && sort != ANY && k < plain.count(); k++) {
            int b = (a + k) % plain.count();
            if (plain.sort(b) == sort) {
                return b;
            }
        }
        return a;
    }

    private int point() {
        return object(POINT);
    }

    /** A line of the plane, or a plane. */
    private int flat() {
        return object(n - 1);
    }

    /** A line or a plane. */
    private int straight() {
        return object(LINE + any(n - 1));
    }

    private int sortToMake() {
        int[] sorts = {POINT, POINT, POINT, LINE, n - 1, MAP, QUADRIC, any(6) == 0 ? strange() : PLANE};
        return sorts[any(sorts.length)];
    }

    private int make(int sort) {
        int width = n + 1;
        boolean isSquare = sort == MAP || sort == QUADRIC;
        int numbers = isSquare ? width * width : sort == LINE && n == 3 ? 6 : width;
        boolean isSuch = any(10) != 0;
        if (isSquare && isSuch) {
            return make(sort, sort == MAP ? chance.map() : chance.quadric());
        }
        if (sort == LINE && isSuch) {
            return make(sort, chance.row(LINE));
        }
        long[] row = new long[numbers];
        for (int i = 0; i < numbers; i++) {
            row[i] = any(4) == 0 ? anyLong() : any(2) * any(p);
        }
        return make(sort, row);
    }

    private int make(int sort, long[] row) {
        if (both.left() <= row.length) {
            return strange();
        }
        for (int i = 0; i < row.length; i++) {
            both.put(i, row[i]);
        }
        return both.make(sort);
    }

    private long anyLong() {
        return ((long) any(Integer.MAX_VALUE) << 33) + any(Integer.MAX_VALUE);
    }

    /** What answers little if the calls before it are any ones. */
    private void severalCalls() {
        // The longest takes some 80 calls.
        if (both.left() < 100) {
            both.told(number(6));
            return;
        }
        switch (any(4)) {
            case 0:
                sixAndTheorem();
                break;
            case 1:
                framesAndMap();
                break;
            case 2:
                manyAndQuadric();
                break;
            default:
                begins();
        }
    }

    private void sixAndTheorem() {
        both.forget();
        int theorem = number(3);
        if (n == 2) {
            for (long[] row : chance.six(theorem)) {
                both.gather(place(row));
            }
        }
        both.holds(theorem);
    }

    /** The point with this row, made if it is not there and there is room. */
    private int place(long[] row) {
        for (int a = 0; a < plain.count(); a++) {
            boolean isSame = plain.sort(a) == POINT;
            for (int i = 0; isSame && i < row.length; i++) {
                isSame = plain.number(a, i) == row[i];
            }
            if (isSame) {
                return a;
            }
        }
        return make(POINT, row);
    }

    private void framesAndMap() {
        long[][] from = frame();
        long[][] to = any(10) == 0 ? from : frame();
        for (int k = 0; k < n + 2; k++) {
            both.pair(place(from[k]), any(30) == 0 ? object(ANY) : place(to[k]));
        }
        both.map();
        both.told(4);
    }

    /** Of points that are there, if such are found soon. */
    private long[][] frame() {
        SmallWorld world = PlainRows.worldOf(n, p);
        long[][] points = new long[n + 2][];
        int tries = 0;
        do {
            for (int k = 0; k < points.length; k++) {
                int a = tries < 50 ? point() : strange();
                points[k] = plain.sort(a) == POINT ? plain.row(a) : chance.row(POINT);
            }
            tries++;
        } while (!world.isFrame(points));
        return points;
    }

    private void manyAndQuadric() {
        both.forget();
        int many = n == 3 ? 9 : 5 + any(3);
        for (int k = 0; k < many; k++) {
            both.gather(place(chance.row(POINT)));
        }
        quadric();
        both.gather(point());
        both.gather(point());
    }

    private void quadric() {
        // In space modulo 5 there are too many quadrics to look through.
        if (n == 2 || p == 3 || plain.told(3) < 9) {
            both.quadric();
        }
    }

    private void begins() {
        int way = any(60);
        if (way == 0) {
            begin(WORLDS[any(WORLDS.length)]);
        } else if (way % 2 == 0) {
            both.begin(number(6), NO_PRIMES[any(NO_PRIMES.length)]);
        } else {
            int[] others = {Integer.MIN_VALUE, -2, 0, 1, 4, 5};
            both.begin(others[any(others.length)], p);
        }
    }

    private void call(int which) {
        if (which < 10) {
            callOfPlaces(which);
        } else if (which < 18) {
            callOfMapsAndGathered(which);
        } else {
            callOfQuadrics(which);
        }
    }

    private void callOfPlaces(int which) {
        switch (which) {
            case 0:
                both.join(any(2) == 0 ? point() : object(LINE), any(2) == 0 ? point() : object(LINE));
                break;
            case 1:
                both.meet(straight(), straight());
                break;
            case 2:
                both.on(object(any(n)), any(3) == 0 ? object(QUADRIC) : object(any(n)));
                break;
            case 3:
                ratio();
                break;
            case 4:
                fourth();
                break;
            case 5:
                both.parallel(straight(), straight());
                break;
            case 6:
                both.middle(point(), point());
                break;
            case 7:
                both.ideal(flat());
                break;
            case 8:
                both.dual(object(any(2) == 0 ? ANY : QUADRIC));
                break;
            default:
                both.number(object(ANY), number(16));
        }
    }

    private void ratio() {
        int sort = any(3) == 0 ? n - 1 : POINT;
        int a = object(sort);
        int b = object(sort);
        both.cross(a, b, besides(sort, a, b), besides(sort, a, b));
    }

    private void fourth() {
        int sort = any(3) == 0 ? n - 1 : POINT;
        int a = object(sort);
        int b = object(sort);
        both.fourth(a, b, besides(sort, a, b), any(10) == 0 ? number(p) : any(p + 1));
    }

    /** Mostly an object with which these two have a rank of 2. */
    private int besides(int sort, int a, int b) {
        int c = object(sort);
        for (int k = 0; k < plain.count() && any(20) != 0; k++) {
            int d = (Math.floorMod(c, plain.count()) + k) % plain.count();
            if (d != a && d != b && plain.cross(a, b, d, d) >= 0) {
                return d;
            }
        }
        return c;
    }

    private void callOfMapsAndGathered(int which) {
        switch (which) {
            case 10:
                both.apply(object(MAP), object(ANY));
                break;
            case 11:
                both.compose(object(MAP), object(MAP));
                break;
            case 12:
                both.inverse(object(MAP));
                break;
            case 13:
                both.order(object(MAP));
                break;
            case 14:
                both.gather(point());
                break;
            case 15:
                both.sort(object(ANY));
                break;
            case 16:
                both.told(number(6));
                break;
            default:
                both.put(number(16), anyLong());
        }
    }

    private void callOfQuadrics(int which) {
        switch (which) {
            case 18:
                both.rank(object(QUADRIC));
                break;
            case 19:
                both.polar(object(QUADRIC), any(2) == 0 ? point() : flat());
                break;
            case 20:
                both.touches(object(QUADRIC), object(LINE));
                break;
            case 21:
            case 22:
                both.common(object(QUADRIC), object(LINE), any(4) == 0 ? number(p + 2) : any(2));
                break;
            case 23:
                both.root(any(3) == 0 ? anyLong() : any(p));
                break;
            case 24:
                quadric();
                break;
            default:
                both.holds(number(3));
        }
    }
}
