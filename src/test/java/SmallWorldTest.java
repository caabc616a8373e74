import java.util.ArrayList;
import java.util.BitSet;
import java.util.List;

/** Asks the class what a small world knows by looking through all its points. */
public final class SmallWorldTest {
    private static final int NONE = Check.NONE, BAD = Check.BAD;
    private static final int POINT = 0, LINE = 1, PLANE = 2, MAP = 3, QUADRIC = 4;

    private final SmallWorld world;
    private final String name;
    private final Chance chance;

    private SmallWorldTest(int n, int p) {
        world = new SmallWorld(n, p);
        name = "n " + n + ", p " + p + ": ";
        chance = new Chance(world, 1000L * n + p);
    }

    public static void main(String[] args) {
        int[] primes = {3, 5, 7};
        for (int n = 2; n <= 3; n++) {
            for (int p : primes) {
                if (n == 3 && p == 7) {
                    continue;
                }
                SmallWorldTest test = new SmallWorldTest(n, p);
                test.pairsOfObjects();
                test.parallels();
                test.middles();
                test.ratios();
                test.maps();
                test.mapsByPoints();
                test.quadrics();
                test.duals();
            }
        }
        new SmallWorldTest(2, 3).quadricsByPoints(600);
        new SmallWorldTest(3, 3).quadricsByPoints(40);
        new SmallWorldTest(2, 3).theorems(3000);
        new SmallWorldTest(2, 5).theorems(3000);
        new SmallWorldTest(2, 7).theorems(300);
        Check.end("SmallWorldTest");
    }

    private ProjectiveRows begun() {
        ProjectiveRows x = new ProjectiveRows();
        x.begin(world.n, world.p);
        return x;
    }

    private void due(String what, long got, long want) {
        Check.due(name + what, got, want);
    }

    /** That a call's answer is an object with this sort and row, or NONE if the row is null. */
    private void dueRow(ProjectiveRows x, String what, int got, int sort, long[] want) {
        if (want == null) {
            due(what, got, NONE);
            return;
        }
        long[] row = world.normal(want);
        due(what + ": sort", x.sort(got), sort);
        for (int i = 0; i < row.length; i++) {
            due(what + ": number " + i, x.number(got, i), row[i]);
        }
    }

    private long[] rowOf(ProjectiveRows x, int a, int length) {
        long[] row = new long[length];
        for (int i = 0; i < length; i++) {
            row[i] = x.number(a, i);
        }
        return row;
    }

    private void pairsOfObjects() {
        List<int[]> sortsAndPlaces = new ArrayList<>();
        for (int sort = 0; sort < world.n; sort++) {
            for (int k = 0; k < world.rows.get(sort).size(); k++) {
                sortsAndPlaces.add(new int[] {sort, k});
            }
        }
        int all = sortsAndPlaces.size();
        boolean each = all * all <= 50000;
        for (int k = 0; k < (each ? all * all : 6000); k++) {
            int[] a = sortsAndPlaces.get(each ? k / all : chance.any(all));
            int[] b = sortsAndPlaces.get(each ? k % all : chance.any(all));
            ask(a[0], world.rows.get(a[0]).get(a[1]), b[0], world.rows.get(b[0]).get(b[1]));
        }
    }

    private void ask(int sortA, long[] rowA, int sortB, long[] rowB) {
        ProjectiveRows x = begun();
        int a = Check.make(x, sortA, rowA);
        int b = Check.make(x, sortB, rowB);
        BitSet setA = world.setOf(sortA, rowA);
        BitSet setB = world.setOf(sortB, rowB);
        BitSet both = SmallWorld.shared(setA, setB);
        BitSet either = SmallWorld.united(setA, setB);
        String what = "(" + sortA + SmallWorld.key(rowA) + ", " + sortB + SmallWorld.key(rowB) + ")";
        int low = Math.min(sortA, sortB);
        int high = Math.max(sortA, sortB);
        due("on" + what, x.on(a, b), isOn(low, high, both, setA, setB));

        if (high == POINT) {
            dueRow(x, "join" + what, x.join(a, b), LINE, world.onlyAround(LINE, either));
        } else if (world.n == 3 && high == LINE) {
            dueRow(x, "join" + what, x.join(a, b), PLANE, world.onlyAround(PLANE, either));
        } else {
            due("join" + what, x.join(a, b), BAD);
        }
        if (low == POINT) {
            due("meet" + what, x.meet(a, b), BAD);
        } else {
            int sort = low == PLANE ? LINE : POINT;
            dueRow(x, "meet" + what, x.meet(a, b), sort, world.onlyWithin(sort, both));
        }
    }

    private int isOn(int low, int high, BitSet both, BitSet a, BitSet b) {
        if (low == high && (low != LINE || world.n == 2)) {
            return BAD;
        }
        if (low == high) {
            return both.isEmpty() ? 0 : 1;
        }
        return both.equals(a) || both.equals(b) ? 1 : 0;
    }

    private void parallels() {
        for (int k = 0; k < 4000; k++) {
            ProjectiveRows x = begun();
            int sortA = 1 + chance.any(world.n - 1);
            int sortB = 1 + chance.any(world.n - 1);
            long[] rowA = chance.row(sortA);
            long[] rowB = k % 10 == 0 && sortA == sortB ? rowA : chance.row(sortB);
            long[] far = chance.row(world.n - 1);
            int a = Check.make(x, sortA, rowA);
            int b = Check.make(x, sortB, rowB);
            x.ideal(Check.make(x, world.n - 1, far));
            due("parallel", x.parallel(a, b), world.isParallel(sortA, rowA, sortB, rowB,
                world.setOf(world.n - 1, far)));
        }
    }

    private void middles() {
        for (int k = 0; k < 1500; k++) {
            ProjectiveRows x = begun();
            long[] rowA = chance.row(POINT);
            long[] rowB = chance.row(POINT);
            long[] far = chance.row(world.n - 1);
            int a = Check.make(x, POINT, rowA);
            int b = Check.make(x, POINT, rowB);
            x.ideal(Check.make(x, world.n - 1, far));
            dueRow(x, "middle", x.middle(a, b), POINT, world.middle(rowA, rowB, far));
        }
    }

    private void ratios() {
        for (int k = 0; k < 2500; k++) {
            ProjectiveRows x = begun();
            int sort = chance.any(2) == 0 ? POINT : world.n - 1;
            long[] a = chance.row(sort);
            long[] b = chance.any(9) == 0 ? a : chance.row(sort);
            long[] c = chance.near(a, b, sort);
            long[] d = chance.near(a, b, sort);
            int[] made = {Check.make(x, sort, a), Check.make(x, sort, b), Check.make(x, sort, c),
                Check.make(x, sort, d)};
            due("cross", x.cross(made[0], made[1], made[2], made[3]), world.crossRatio(a, b, c, d));
            int v = chance.any(world.p + 1);
            dueRow(x, "fourth", x.fourth(made[0], made[1], made[2], v), sort,
                world.fourth(sort, a, b, c, v));
        }
    }

    private void maps() {
        for (int k = 0; k < 300; k++) {
            ProjectiveRows x = begun();
            long[] square = chance.map();
            int m = Check.make(x, MAP, square);
            for (int sort = 0; sort < world.n; sort++) {
                long[] row = chance.row(sort);
                BitSet set = world.imageOfSet(square, world.setOf(sort, row));
                dueRow(x, "apply", x.apply(m, Check.make(x, sort, row)), sort,
                    world.onlyAround(sort, set));
            }
            long[] quadric = chance.quadric();
            int size = world.width * world.width;
            long[] moved = rowOf(x, x.apply(m, Check.make(x, QUADRIC, quadric)), size);
            for (long[] y : world.points) {
                long[] z = world.image(square, y);
                Check.due(name + "apply to a quadric",
                    (world.form(quadric, y, y) == 0) == (world.form(moved, z, z) == 0));
            }
            sameRank(quadric, moved);
            mapsOfMaps(x, m, square);
            due("order", x.order(m), world.orderOf(square));
        }
    }

    private void sameRank(long[] q, long[] r) {
        due("rank of an image", world.rankOfSquare(r), world.rankOfSquare(q));
    }

    private void mapsOfMaps(ProjectiveRows x, int m, long[] square) {
        int size = world.width * world.width;
        long[] other = chance.map();
        int h = Check.make(x, MAP, other);
        long[] both = rowOf(x, x.compose(m, h), size);
        long[] back = rowOf(x, x.inverse(m), size);
        long[] shifted = rowOf(x, x.apply(m, h), size);
        for (long[] y : world.points) {
            long[] z = world.image(square, y);
            due("compose", world.indexOf(world.image(both, y)),
                world.indexOf(world.image(square, world.image(other, y))));
            due("inverse", world.indexOf(world.image(back, z)), world.indexOf(y));
            due("apply to a map", world.indexOf(world.image(shifted, z)),
                world.indexOf(world.image(square, world.image(other, y))));
        }
    }

    private void mapsByPoints() {
        for (int k = 0; k < 1500; k++) {
            ProjectiveRows x = begun();
            int count = world.n + 2;
            long[][] from = new long[count][];
            long[][] to = new long[count][];
            for (int i = 0; i < count; i++) {
                from[i] = chance.row(POINT);
                to[i] = chance.row(POINT);
                x.pair(Check.make(x, POINT, from[i]), Check.make(x, POINT, to[i]));
            }
            int m = x.map();
            if (!world.isFrame(from) || !world.isFrame(to)) {
                due("map", m, NONE);
                due("pairs stay", x.told(4), count);
                continue;
            }
            due("pairs are gone", x.told(4), 0);
            due("map", x.sort(m), MAP);
            for (int i = 0; i < count; i++) {
                dueRow(x, "map", x.apply(m, Check.make(x, POINT, from[i])), POINT, to[i]);
            }
        }
    }

    private void quadrics() {
        for (int k = 0; k < 300; k++) {
            ProjectiveRows x = begun();
            long[] square = chance.quadric();
            int q = Check.make(x, QUADRIC, square);
            due("rank", x.rank(q), world.rankOfSquare(square));
            long[] y = chance.row(POINT);
            int a = Check.make(x, POINT, y);
            due("on a quadric", x.on(q, a), world.form(square, y, y) == 0 ? 1 : 0);
            long[] image = world.image(square, y);
            dueRow(x, "polar", x.polar(q, a), world.n - 1, world.isZero(image) ? null : image);
            long[] u = chance.row(world.n - 1);
            dueRow(x, "polar of a flat", x.polar(q, Check.make(x, world.n - 1, u)), POINT,
                world.pole(square, u));
            for (int i = 0; i < 3; i++) {
                lineAndQuadric(x, q, square);
            }
        }
    }

    private void lineAndQuadric(ProjectiveRows x, int q, long[] square) {
        long[] row = chance.row(LINE);
        int line = Check.make(x, LINE, row);
        List<long[]> shared = world.common(square, row);
        due("touches", x.touches(q, line), shared.size());
        for (int k = 0; k < shared.size(); k++) {
            dueRow(x, "common", x.common(q, line, k), POINT, shared.get(k));
        }
        due("common: no more", x.common(q, line, shared.size()), NONE);
        due("common: below 0", x.common(q, line, -1), BAD);
    }

    private void duals() {
        for (int k = 0; k < 400; k++) {
            ProjectiveRows x = begun();
            long[] row = chance.row(POINT);
            dueRow(x, "dual", x.dual(Check.make(x, POINT, row)), world.n - 1, row);
            dueRow(x, "dual", x.dual(Check.make(x, world.n - 1, row)), POINT, row);
            if (world.n == 3) {
                long[] line = chance.row(LINE);
                dueRow(x, "dual", x.dual(Check.make(x, LINE, line)), LINE, world.dualOfLine(line));
            }
            dualOfMap(x);
            dualOfQuadric(x);
        }
    }

    /** The dual of a map does to the rows of flats what the map does to the flats. */
    private void dualOfMap(ProjectiveRows x) {
        long[] square = chance.map();
        int size = world.width * world.width;
        long[] dual = rowOf(x, x.dual(Check.make(x, MAP, square)), size);
        for (long[] u : world.points) {
            BitSet moved = world.imageOfSet(square, world.setOf(world.n - 1, u));
            due("dual of a map", world.indexOf(world.image(dual, u)),
                world.indexOf(world.onlyAround(world.n - 1, moved)));
        }
    }

    private void dualOfQuadric(ProjectiveRows x) {
        long[] square = chance.quadric();
        int d = x.dual(Check.make(x, QUADRIC, square));
        if (world.rankOfSquare(square) < world.width) {
            due("dual of a quadric", d, NONE);
            return;
        }
        due("dual of a quadric", x.sort(d), QUADRIC);
        long[] dual = rowOf(x, d, world.width * world.width);
        for (long[] y : world.points) {
            due("dual of a quadric", world.indexOf(world.image(dual, world.image(square, y))),
                world.indexOf(y));
        }
    }

    /** Looks through all quadrics. */
    private void quadricsByPoints(int runs) {
        for (int k = 0; k < runs; k++) {
            ProjectiveRows x = begun();
            BitSet gathered = new BitSet();
            for (int g = 0; g < 9; g++) {
                long[] y = chance.row(POINT);
                x.gather(Check.make(x, POINT, y));
                gathered.set(world.indexOf(y));
                dueRow(x, "quadric", x.quadric(), QUADRIC, world.quadricOn(gathered));
            }
        }
    }

    private void theorems(int runs) {
        int[] counts = new int[3];
        for (int k = 0; k < runs; k++) {
            ProjectiveRows x = begun();
            long[][] six = chance.six(k % 3);
            for (long[] y : six) {
                x.gather(Check.make(x, POINT, y));
            }
            for (int theorem = 0; theorem < 3; theorem++) {
                int want = world.holds(theorem, six);
                due("holds(" + theorem + ")", x.holds(theorem), want);
                counts[theorem] += want >= 0 ? 1 : 0;
            }
            due("holds(3)", x.holds(3), BAD);
        }
        for (int theorem = 0; theorem < 3; theorem++) {
            Check.due(name + "theorem " + theorem + " was asked often", counts[theorem] > 20);
        }
    }
}
