import java.util.ArrayList;
import java.util.BitSet;
import java.util.List;

/** Asks the class what a small world knows by looking through all its points. */
public final class SmallWorldTest {
    private static final int NONE = Check.NONE, BAD = Check.BAD;
    private static final int POINT = 0, LINE = 1, PLANE = 2, MAP = 3, QUADRIC = 4;

    private final SmallWorld world;
    private final String name;
    private long seed;

    private SmallWorldTest(int n, int p) {
        world = new SmallWorld(n, p);
        name = "n " + n + ", p " + p + ": ";
        seed = 1000L * n + p;
    }

    public static void main(String[] args) {
        int[] primes = {3, 5, 7};
        for (int n = 2; n <= 3; n++) {
            for (int p : primes) {
                if (n == 3 && p == 7) {
                    continue;
                }
                SmallWorldTest test = new SmallWorldTest(n, p);
                test.pairsOfObjects();
                test.parallels();
                test.middles();
                test.ratios();
                test.maps();
                test.mapsByPoints();
                test.quadrics();
                test.duals();
            }
        }
        new SmallWorldTest(2, 3).quadricsByPoints(600);
        new SmallWorldTest(3, 3).quadricsByPoints(40);
        new SmallWorldTest(2, 3).theorems(3000);
        new SmallWorldTest(2, 5).theorems(3000);
        new SmallWorldTest(2, 7).theorems(300);
        Check.end("SmallWorldTest");
    }

    /** A number below the bound, the same ones in each run. */
    private int any(int bound) {
        seed = seed * 6364136223846793005L + 1442695040888963407L;
        return (int) ((seed >>> 33) % bound);
    }

    private long[] anyRow(int sort) {
        List<long[]> all = world.rows.get(sort);
        return all.get(any(all.size()));
    }

    private ProjectiveRows begun() {
        ProjectiveRows x = new ProjectiveRows();
        x.begin(world.n, world.p);
        return x;
    }

    private void due(String what, long got, long want) {
        Check.due(name + what, got, want);
    }

    /** That a call's answer is an object with this sort and row, or NONE if the row is null. */
    private void dueRow(ProjectiveRows x, String what, int got, int sort, long[] want) {
        if (want == null) {
            due(what, got, NONE);
            return;
        }
        long[] row = world.normal(want);
        due(what + ": sort", x.sort(got), sort);
        for (int i = 0; i < row.length; i++) {
            due(what + ": number " + i, x.number(got, i), row[i]);
        }
    }

    private long[] rowOf(ProjectiveRows x, int a, int length) {
        long[] row = new long[length];
        for (int i = 0; i < length; i++) {
            row[i] = x.number(a, i);
        }
        return row;
    }

    private void pairsOfObjects() {
        List<int[]> sortsAndPlaces = new ArrayList<>();
        for (int sort = 0; sort < world.n; sort++) {
            for (int k = 0; k < world.rows.get(sort).size(); k++) {
                sortsAndPlaces.add(new int[] {sort, k});
            }
        }
        int all = sortsAndPlaces.size();
        boolean each = all * all <= 50000;
        for (int k = 0; k < (each ? all * all : 6000); k++) {
            int[] a = sortsAndPlaces.get(each ? k / all : any(all));
            int[] b = sortsAndPlaces.get(each ? k % all : any(all));
            ask(a[0], world.rows.get(a[0]).get(a[1]), b[0], world.rows.get(b[0]).get(b[1]));
        }
    }

    private void ask(int sortA, long[] rowA, int sortB, long[] rowB) {
        ProjectiveRows x = begun();
        int a = Check.make(x, sortA, rowA);
        int b = Check.make(x, sortB, rowB);
        BitSet setA = world.setOf(sortA, rowA);
        BitSet setB = world.setOf(sortB, rowB);
        BitSet both = (BitSet) setA.clone();
        both.and(setB);
        BitSet either = (BitSet) setA.clone();
        either.or(setB);
        String what = "(" + sortA + SmallWorld.key(rowA) + ", " + sortB + SmallWorld.key(rowB) + ")";
        int low = Math.min(sortA, sortB);
        int high = Math.max(sortA, sortB);
        due("on" + what, x.on(a, b), isOn(low, high, both, setA, setB));

        if (high == POINT) {
            dueRow(x, "join" + what, x.join(a, b), LINE, world.onlyAround(LINE, either));
        } else if (world.n == 3 && high == LINE) {
            dueRow(x, "join" + what, x.join(a, b), PLANE, world.onlyAround(PLANE, either));
        } else {
            due("join" + what, x.join(a, b), BAD);
        }
        if (low == POINT) {
            due("meet" + what, x.meet(a, b), BAD);
        } else {
            int sort = low == PLANE ? LINE : POINT;
            dueRow(x, "meet" + what, x.meet(a, b), sort, world.onlyWithin(sort, both));
        }
    }

    private int isOn(int low, int high, BitSet both, BitSet a, BitSet b) {
        if (low == high && (low != LINE || world.n == 2)) {
            return BAD;
        }
        if (low == high) {
            return both.isEmpty() ? 0 : 1;
        }
        return both.equals(a) || both.equals(b) ? 1 : 0;
    }

    private void parallels() {
        for (int k = 0; k < 4000; k++) {
            ProjectiveRows x = begun();
            int sortA = 1 + any(world.n - 1);
            int sortB = 1 + any(world.n - 1);
            long[] rowA = anyRow(sortA);
            long[] rowB = k % 10 == 0 && sortA == sortB ? rowA : anyRow(sortB);
            long[] far = anyRow(world.n - 1);
            int a = Check.make(x, sortA, rowA);
            int b = Check.make(x, sortB, rowB);
            x.ideal(Check.make(x, world.n - 1, far));
            due("parallel", x.parallel(a, b), isParallel(sortA, rowA, sortB, rowB,
                world.setOf(world.n - 1, far)));
        }
    }

    private static boolean isWithin(BitSet inside, BitSet outside) {
        BitSet rest = (BitSet) inside.clone();
        rest.andNot(outside);
        return rest.isEmpty();
    }

    private int isParallel(int sortA, long[] rowA, int sortB, long[] rowB, BitSet far) {
        BitSet a = world.setOf(sortA, rowA);
        BitSet b = world.setOf(sortB, rowB);
        if (isWithin(a, far) || isWithin(b, far)) {
            return NONE;
        }
        if (isWithin(a, b) || isWithin(b, a)) {
            return 1;
        }
        BitSet both = (BitSet) a.clone();
        both.and(b);
        return !both.isEmpty() && isWithin(both, far) ? 1 : 0;
    }

    private void middles() {
        for (int k = 0; k < 1500; k++) {
            ProjectiveRows x = begun();
            long[] rowA = anyRow(POINT);
            long[] rowB = anyRow(POINT);
            long[] far = anyRow(world.n - 1);
            int a = Check.make(x, POINT, rowA);
            int b = Check.make(x, POINT, rowB);
            x.ideal(Check.make(x, world.n - 1, far));
            long[] want = null;
            if (a != b && world.dot(rowA, far) != 0 && world.dot(rowB, far) != 0) {
                long[] at = null;
                List<long[]> line = world.inOrder(lineOf(rowA, rowB));
                for (long[] y : line) {
                    at = world.dot(y, far) == 0 ? y : at;
                }
                for (long[] y : line) {
                    want = world.crossRatio(rowA, rowB, at, y) == world.p - 1 ? y : want;
                }
            }
            dueRow(x, "middle", x.middle(a, b), POINT, want);
        }
    }

    private BitSet lineOf(long[] x, long[] y) {
        BitSet two = new BitSet();
        two.set(world.indexOf(x));
        two.set(world.indexOf(y));
        long[] line = world.onlyAround(LINE, two);
        return line == null ? null : world.setOf(LINE, line);
    }

    /** A row that is, mostly, among what two others span. */
    private long[] near(long[] x, long[] y, int sort) {
        int way = any(12);
        if (way == 0) {
            return anyRow(sort);
        }
        if (way <= 2) {
            return way == 1 ? x : y;
        }
        long[] sum = world.plus(x, any(world.p), y);
        return world.isZero(sum) ? x : world.normal(sum);
    }

    private void ratios() {
        for (int k = 0; k < 2500; k++) {
            ProjectiveRows x = begun();
            int sort = any(2) == 0 ? POINT : world.n - 1;
            long[] a = anyRow(sort);
            long[] b = any(9) == 0 ? a : anyRow(sort);
            long[] c = near(a, b, sort);
            long[] d = near(a, b, sort);
            int[] made = {Check.make(x, sort, a), Check.make(x, sort, b), Check.make(x, sort, c),
                Check.make(x, sort, d)};
            due("cross", x.cross(made[0], made[1], made[2], made[3]), world.crossRatio(a, b, c, d));
            int v = any(world.p + 1);
            long[] want = null;
            if (made[0] != made[1] && made[1] != made[2] && made[0] != made[2]) {
                for (long[] y : world.rows.get(sort)) {
                    want = world.crossRatio(a, b, c, y) == v ? y : want;
                }
            }
            dueRow(x, "fourth", x.fourth(made[0], made[1], made[2], v), sort, want);
        }
    }

    private long[] anyMap() {
        long[] square = new long[world.width * world.width];
        do {
            boolean sparse = any(2) == 0;
            for (int i = 0; i < square.length; i++) {
                square[i] = sparse && any(3) != 0 ? 0 : any(world.p);
            }
        } while (world.rankOfSquare(square) != world.width);
        return square;
    }

    private long[] anyQuadric() {
        long[] square = new long[world.width * world.width];
        do {
            boolean sparse = any(2) == 0;
            for (int i = 0; i < world.width; i++) {
                for (int j = i; j < world.width; j++) {
                    long v = sparse && any(3) != 0 ? 0 : any(world.p);
                    square[i * world.width + j] = v;
                    square[j * world.width + i] = v;
                }
            }
        } while (world.isZero(square));
        return square;
    }

    private void maps() {
        for (int k = 0; k < 300; k++) {
            ProjectiveRows x = begun();
            long[] square = anyMap();
            int m = Check.make(x, MAP, square);
            for (int sort = 0; sort < world.n; sort++) {
                long[] row = anyRow(sort);
                BitSet set = world.imageOfSet(square, world.setOf(sort, row));
                dueRow(x, "apply", x.apply(m, Check.make(x, sort, row)), sort,
                    world.onlyAround(sort, set));
            }
            long[] quadric = anyQuadric();
            int size = world.width * world.width;
            long[] moved = rowOf(x, x.apply(m, Check.make(x, QUADRIC, quadric)), size);
            for (long[] y : world.points) {
                long[] z = world.image(square, y);
                Check.due(name + "apply to a quadric",
                    (world.form(quadric, y, y) == 0) == (world.form(moved, z, z) == 0));
            }
            sameRank(quadric, moved);
            mapsOfMaps(x, m, square);
            due("order", x.order(m), orderOf(square));
        }
    }

    private void sameRank(long[] q, long[] r) {
        due("rank of an image", world.rankOfSquare(r), world.rankOfSquare(q));
    }

    private void mapsOfMaps(ProjectiveRows x, int m, long[] square) {
        int size = world.width * world.width;
        long[] other = anyMap();
        int h = Check.make(x, MAP, other);
        long[] both = rowOf(x, x.compose(m, h), size);
        long[] back = rowOf(x, x.inverse(m), size);
        long[] shifted = rowOf(x, x.apply(m, h), size);
        for (long[] y : world.points) {
            long[] z = world.image(square, y);
            due("compose", world.indexOf(world.image(both, y)),
                world.indexOf(world.image(square, world.image(other, y))));
            due("inverse", world.indexOf(world.image(back, z)), world.indexOf(y));
            due("apply to a map", world.indexOf(world.image(shifted, z)),
                world.indexOf(world.image(square, world.image(other, y))));
        }
    }

    private int orderOf(long[] square) {
        int[] to = new int[world.points.size()];
        int[] now = new int[to.length];
        for (int k = 0; k < to.length; k++) {
            to[k] = world.indexOf(world.image(square, world.points.get(k)));
            now[k] = k;
        }
        for (int times = 1; times <= 1000; times++) {
            boolean back = true;
            for (int k = 0; k < to.length; k++) {
                now[k] = to[now[k]];
                back &= now[k] == k;
            }
            if (back) {
                return times;
            }
        }
        return NONE;
    }

    private void mapsByPoints() {
        for (int k = 0; k < 1500; k++) {
            ProjectiveRows x = begun();
            int count = world.n + 2;
            long[][] from = new long[count][];
            long[][] to = new long[count][];
            for (int i = 0; i < count; i++) {
                from[i] = anyRow(POINT);
                to[i] = anyRow(POINT);
                x.pair(Check.make(x, POINT, from[i]), Check.make(x, POINT, to[i]));
            }
            int m = x.map();
            if (!isFrame(from) || !isFrame(to)) {
                due("map", m, NONE);
                due("pairs stay", x.told(4), count);
                continue;
            }
            due("pairs are gone", x.told(4), 0);
            due("map", x.sort(m), MAP);
            for (int i = 0; i < count; i++) {
                dueRow(x, "map", x.apply(m, Check.make(x, POINT, from[i])), POINT, to[i]);
            }
        }
    }

    private boolean isFrame(long[][] points) {
        for (int without = 0; without < points.length; without++) {
            long[][] rest = new long[points.length - 1][];
            for (int i = 0; i < rest.length; i++) {
                rest[i] = points[i < without ? i : i + 1];
            }
            if (world.rankOf(rest) != world.width) {
                return false;
            }
        }
        return true;
    }

    private void quadrics() {
        for (int k = 0; k < 300; k++) {
            ProjectiveRows x = begun();
            long[] square = anyQuadric();
            int q = Check.make(x, QUADRIC, square);
            int rank = world.rankOfSquare(square);
            due("rank", x.rank(q), rank);
            long[] y = anyRow(POINT);
            int a = Check.make(x, POINT, y);
            due("on a quadric", x.on(q, a), world.form(square, y, y) == 0 ? 1 : 0);
            long[] image = world.image(square, y);
            dueRow(x, "polar", x.polar(q, a), world.n - 1, world.isZero(image) ? null : image);
            long[] u = anyRow(world.n - 1);
            long[] pole = null;
            for (long[] z : world.points) {
                long[] flat = world.image(square, z);
                if (rank == world.width && SmallWorld.key(world.normal(flat)).equals(SmallWorld.key(u))) {
                    pole = z;
                }
            }
            dueRow(x, "polar of a flat", x.polar(q, Check.make(x, world.n - 1, u)), POINT, pole);
            for (int i = 0; i < 3; i++) {
                lineAndQuadric(x, q, square);
            }
        }
    }

    private void lineAndQuadric(ProjectiveRows x, int q, long[] square) {
        long[] row = anyRow(LINE);
        int line = Check.make(x, LINE, row);
        List<long[]> shared = new ArrayList<>();
        for (long[] y : world.inOrder(world.setOf(LINE, row))) {
            if (world.form(square, y, y) == 0) {
                shared.add(y);
            }
        }
        due("touches", x.touches(q, line), shared.size());
        for (int k = 0; k < shared.size(); k++) {
            dueRow(x, "common", x.common(q, line, k), POINT, shared.get(k));
        }
        due("common: no more", x.common(q, line, shared.size()), NONE);
        due("common: below 0", x.common(q, line, -1), BAD);
    }

    private void duals() {
        for (int k = 0; k < 400; k++) {
            ProjectiveRows x = begun();
            long[] row = anyRow(POINT);
            dueRow(x, "dual", x.dual(Check.make(x, POINT, row)), world.n - 1, row);
            dueRow(x, "dual", x.dual(Check.make(x, world.n - 1, row)), POINT, row);
            if (world.n == 3) {
                long[] line = anyRow(LINE);
                BitSet shared = new BitSet();
                shared.set(0, world.points.size());
                for (long[] y : world.inOrder(world.setOf(LINE, line))) {
                    shared.and(world.setOf(PLANE, world.normal(y)));
                }
                dueRow(x, "dual", x.dual(Check.make(x, LINE, line)), LINE,
                    world.onlyAround(LINE, shared));
            }
            dualOfMap(x);
            dualOfQuadric(x);
        }
    }

    /** The dual of a map does to the rows of flats what the map does to the flats. */
    private void dualOfMap(ProjectiveRows x) {
        long[] square = anyMap();
        int size = world.width * world.width;
        long[] dual = rowOf(x, x.dual(Check.make(x, MAP, square)), size);
        for (long[] u : world.points) {
            BitSet moved = world.imageOfSet(square, world.setOf(world.n - 1, u));
            due("dual of a map", world.indexOf(world.image(dual, u)),
                world.indexOf(world.onlyAround(world.n - 1, moved)));
        }
    }

    private void dualOfQuadric(ProjectiveRows x) {
        long[] square = anyQuadric();
        int d = x.dual(Check.make(x, QUADRIC, square));
        if (world.rankOfSquare(square) < world.width) {
            due("dual of a quadric", d, NONE);
            return;
        }
        due("dual of a quadric", x.sort(d), QUADRIC);
        long[] dual = rowOf(x, d, world.width * world.width);
        for (long[] y : world.points) {
            due("dual of a quadric", world.indexOf(world.image(dual, world.image(square, y))),
                world.indexOf(y));
        }
    }

    /** Looks through all quadrics. */
    private void quadricsByPoints(int runs) {
        List<long[]> all = new ArrayList<>();
        List<BitSet> sets = new ArrayList<>();
        int unknown = world.width * (world.width + 1) / 2;
        int codes = (int) Math.round(Math.pow(world.p, unknown));
        for (int code = 1; code < codes; code++) {
            long[] square = new long[world.width * world.width];
            int left = code;
            for (int i = 0; i < world.width; i++) {
                for (int j = i; j < world.width; j++) {
                    square[i * world.width + j] = left % world.p;
                    square[j * world.width + i] = left % world.p;
                    left /= world.p;
                }
            }
            if (SmallWorld.key(square).equals(SmallWorld.key(world.normal(square)))) {
                all.add(square);
                sets.add(world.setOfQuadric(square));
            }
        }
        for (int k = 0; k < runs; k++) {
            ProjectiveRows x = begun();
            BitSet gathered = new BitSet();
            for (int g = 0; g < 9; g++) {
                long[] y = anyRow(POINT);
                x.gather(Check.make(x, POINT, y));
                gathered.set(world.indexOf(y));
                long[] found = null;
                int count = 0;
                for (int i = 0; i < all.size(); i++) {
                    if (isWithin(gathered, sets.get(i))) {
                        count++;
                        found = all.get(i);
                    }
                }
                dueRow(x, "quadric", x.quadric(), QUADRIC, count == 1 ? found : null);
            }
        }
    }

    private void theorems(int runs) {
        int[] counts = new int[3];
        for (int k = 0; k < runs; k++) {
            ProjectiveRows x = begun();
            long[][] six = anySix(k % 3);
            for (long[] y : six) {
                x.gather(Check.make(x, POINT, y));
            }
            for (int theorem = 0; theorem < 3; theorem++) {
                int want = holds(theorem, six);
                due("holds(" + theorem + ")", x.holds(theorem), want);
                counts[theorem] += want >= 0 ? 1 : 0;
            }
            due("holds(3)", x.holds(3), BAD);
        }
        for (int theorem = 0; theorem < 3; theorem++) {
            Check.due(name + "theorem " + theorem + " was asked often", counts[theorem] > 20);
        }
    }

    /** Six points, mostly such that a theorem can be asked of them. */
    private long[][] anySix(int theorem) {
        long[][] six = new long[6][];
        for (int i = 0; i < 6; i++) {
            six[i] = anyRow(POINT);
        }
        if (theorem == 0) {
            six[4] = near(six[0], six[2], POINT);
            six[5] = near(six[1], six[3], POINT);
        } else if (theorem == 1) {
            long[] center = anyRow(POINT);
            for (int i = 0; i < 3; i++) {
                six[i + 3] = near(center, six[i], POINT);
            }
        } else {
            long[] square = anyQuadric();
            BitSet set = world.setOfQuadric(square);
            if (set.cardinality() > 0) {
                for (int i = 0; i < 6; i++) {
                    int place = set.nextSetBit(any(world.points.size()));
                    six[i] = world.points.get(place < 0 ? set.nextSetBit(0) : place);
                }
            }
        }
        return six;
    }

    private int holds(int theorem, long[][] six) {
        if (theorem == 0 && (world.rankOf(six[0], six[2], six[4]) == 3
            || world.rankOf(six[1], six[3], six[5]) == 3)) {
            return NONE;
        }
        if (theorem == 1 && !areThroughOnePoint(six)) {
            return NONE;
        }
        if (theorem == 2 && !areOnAQuadric(six)) {
            return NONE;
        }
        int[][] sides = theorem == 1
            ? new int[][] {{0, 1, 3, 4}, {1, 2, 4, 5}, {2, 0, 5, 3}}
            : new int[][] {{0, 1, 3, 4}, {1, 2, 4, 5}, {2, 3, 5, 0}};
        long[][] met = new long[3][];
        for (int k = 0; k < 3; k++) {
            BitSet one = lineOf(six[sides[k][0]], six[sides[k][1]]);
            BitSet other = lineOf(six[sides[k][2]], six[sides[k][3]]);
            if (one == null || other == null) {
                return NONE;
            }
            BitSet both = (BitSet) one.clone();
            both.and(other);
            met[k] = world.onlyWithin(POINT, both);
            if (met[k] == null) {
                return NONE;
            }
        }
        return world.rankOf(met) < 3 ? 1 : 0;
    }

    private boolean areThroughOnePoint(long[][] six) {
        BitSet shared = new BitSet();
        shared.set(0, world.points.size());
        for (int i = 0; i < 3; i++) {
            BitSet line = lineOf(six[i], six[i + 3]);
            if (line == null) {
                return false;
            }
            shared.and(line);
        }
        return !shared.isEmpty();
    }

    private boolean areOnAQuadric(long[][] six) {
        long[][] conditions = new long[6][];
        for (int i = 0; i < 6; i++) {
            long a = six[i][0];
            long b = six[i][1];
            long c = six[i][2];
            int p = world.p;
            conditions[i] = new long[] {a * a % p, b * b % p, c * c % p, a * b % p, a * c % p,
                b * c % p};
        }
        return world.rankOf(conditions) < 6;
    }
}
