import java.util.Arrays;
import java.util.List;

/**
 * What is refused with BAD, NONE, or pair's and gather's FULL, promise by promise: the answer, and
 * by later calls that nothing has changed; each also where there are 60 objects, since BAD and NONE
 * go before FULL. In the plane and in space.
 */
public final class RefusedTest {
    private static final int NONE = Check.NONE, BAD = Check.BAD, FULL = Check.FULL;
    private static final int POINT = 0, LINE = 1, PLANE = 2, MAP = 3, QUADRIC = 4;
    private static final int A = Scene.A, B = Scene.B, C = Scene.C, D = Scene.D, E = Scene.E;
    private static final int G = Scene.G, U = Scene.U, V = Scene.V, W = Scene.W;
    private static final int Q = Scene.Q, R = Scene.R, M = Scene.M, N = Scene.N;
    private static final int H = Scene.H, S = Scene.S;
    private static final int THROUGH_V = Scene.THROUGH_V, BESIDE_V = Scene.BESIDE_V;
    private static final int LEAST = Integer.MIN_VALUE, GREATEST = Integer.MAX_VALUE;

    private static final Scene IN_PLANE = Scene.of(2);
    private static final Scene IN_SPACE = Scene.of(3);
    private static final List<Scene> BOTH = List.of(IN_PLANE, IN_SPACE);

    private interface Call {
        long of(Asked x, int[] a);
    }

    /** A call with the sorts that go together: those of the plane, and those of space. */
    private record Sorted(String name, Call call, String plane, String space) {
        List<String> sorts(int n) {
            return Arrays.asList((n == 2 ? plane : space).split(" "));
        }

        int objects() {
            return sorts(2).get(0).length();
        }
    }

    private static final List<Sorted> CALLS = List.of(
        new Sorted("5: number", (x, a) -> x.number(a[0], 0), "0 1 3 4", "0 1 2 3 4"),
        new Sorted("6: sort", (x, a) -> x.sort(a[0]), "0 1 3 4", "0 1 2 3 4"),
        new Sorted("7: join", (x, a) -> x.join(a[0], a[1]), "00", "00 01 10 11"),
        new Sorted("8: meet", (x, a) -> x.meet(a[0], a[1]), "11", "22 12 21 11"),
        new Sorted("9: on", (x, a) -> x.on(a[0], a[1]), "01 10 04 40",
            "01 10 02 20 04 40 12 21 11"),
        new Sorted("10: cross", (x, a) -> x.cross(a[0], a[1], a[2], a[3]), "0000 1111",
            "0000 2222"),
        new Sorted("11: fourth", (x, a) -> x.fourth(a[0], a[1], a[2], 1), "000 111", "000 222"),
        new Sorted("12: pair", (x, a) -> x.pair(a[0], a[1]), "00", "00"),
        new Sorted("14: apply", (x, a) -> x.apply(a[0], a[1]), "30 31 33 34", "30 31 32 33 34"),
        new Sorted("15: compose", (x, a) -> x.compose(a[0], a[1]), "33", "33"),
        new Sorted("16: inverse", (x, a) -> x.inverse(a[0]), "3", "3"),
        new Sorted("17: order", (x, a) -> x.order(a[0]), "3", "3"),
        new Sorted("18: gather", (x, a) -> x.gather(a[0]), "0", "0"),
        new Sorted("21: rank", (x, a) -> x.rank(a[0]), "4", "4"),
        new Sorted("22: polar", (x, a) -> x.polar(a[0], a[1]), "40 41", "40 42"),
        new Sorted("23: touches", (x, a) -> x.touches(a[0], a[1]), "41", "41"),
        new Sorted("24: common", (x, a) -> x.common(a[0], a[1], 0), "41", "41"),
        new Sorted("26: dual", (x, a) -> x.dual(a[0]), "0 1 3 4", "0 1 2 3 4"),
        new Sorted("27: ideal", (x, a) -> x.ideal(a[0]), "1", "2"),
        new Sorted("28: parallel", (x, a) -> x.parallel(a[0], a[1]), "11", "11 22 12 21"),
        new Sorted("29: middle", (x, a) -> x.middle(a[0], a[1]), "00", "00"));

    public static void main(String[] args) {
        noSuchObject();
        sortsThatDoNotGoTogether();
        begin();
        put();
        make();
        number();
        join();
        meet();
        cross();
        fourth();
        pair();
        map();
        order();
        gather();
        quadric();
        polar();
        common();
        root();
        dual();
        parallel();
        middle();
        holdsIsBad();
        holdsNotSix();
        holdsPappus();
        holdsDesargues();
        holdsPascal();
        told();
        Check.end("RefusedTest");
    }

    private static int[] somesOf(String sorts) {
        return sorts.chars().map(c -> Scene.some(c - '0')).toArray();
    }

    /** BAD: there is no such OBJECT: at each of a call's places. */
    private static void noSuchObject() {
        for (Scene scene : BOTH) {
            for (Sorted one : CALLS) {
                for (int place = 0; place < one.objects(); place++) {
                    int at = place;
                    for (int none : new int[] {LEAST, -3, -2, -1, 60, 61, 1 << 16, GREATEST}) {
                        scene.leavesAlways(one.name + ", OBJECT " + none + " at " + at,
                            x -> one.call.of(x, withOne(one, scene.n, at, none)), BAD);
                    }
                    int next = scene.next();
                    scene.leaves(one.name + ", the next OBJECT at " + at,
                        x -> one.call.of(x, withOne(one, scene.n, at, next)), BAD);
                }
            }
        }
    }

    private static int[] withOne(Sorted one, int n, int place, int object) {
        int[] objects = somesOf(one.sorts(n).get(0));
        objects[place] = object;
        return objects;
    }

    /** BAD: SORTS do not go together so: all that the promise does not name. */
    private static void sortsThatDoNotGoTogether() {
        for (Scene scene : BOTH) {
            for (Sorted one : CALLS) {
                int all = (int) Math.round(Math.pow(5, one.objects()));
                for (int code = 0; code < all; code++) {
                    String sorts = sortsOf(code, one.objects());
                    if (scene.n == 2 && sorts.contains("2")) {
                        continue;
                    }
                    String what = one.name + " of SORTS " + sorts;
                    int[] objects = somesOf(sorts);
                    if (one.sorts(scene.n).contains(sorts)) {
                        Check.due(what + " go", one.call.of(scene.build(), objects) != BAD);
                    } else {
                        scene.leavesAlways(what, x -> one.call.of(x, objects), BAD);
                    }
                }
            }
        }
    }

    private static String sortsOf(int code, int count) {
        StringBuilder sorts = new StringBuilder();
        for (int left = code; sorts.length() < count; left /= 5) {
            sorts.append(left % 5);
        }
        return sorts.toString();
    }

    private static void begin() {
        for (Scene scene : BOTH) {
            for (int n : new int[] {LEAST, -3, -2, -1, 0, 1, 4, 5, GREATEST}) {
                scene.leavesAlways("2: n is not 2, 3: " + n, x -> x.begin(n, 7), BAD);
            }
            // 46337 and 46339 are the greatest primes whose squares are numbers here.
            for (int p : new int[] {LEAST, -7, -3, -2, -1, 0, 1, 2, 4, 6, 9, 15, 25, 49, 341, 561,
                46337 * 46337, 46339 * 46339, 46337 * 46327, 2147483645, 2147483646}) {
                scene.leavesAlways("2: p is no odd prime: " + p, x -> x.begin(2, p), BAD);
                scene.leavesAlways("2: p is no odd prime: " + p, x -> x.begin(3, p), BAD);
            }
            scene.leavesAlways("2: neither", x -> x.begin(4, 8), BAD);
        }
    }

    private static void put() {
        for (Scene scene : BOTH) {
            for (int i : new int[] {LEAST, -16, -1, 16, 17, 32, GREATEST}) {
                scene.leavesAlways("3: number " + i + " in hand", x -> x.put(i, 5), BAD);
            }
        }
    }

    private static void make() {
        for (Scene scene : BOTH) {
            int size = (scene.n + 1) * (scene.n + 1);
            for (int sort : new int[] {LEAST, -5, -1, 5, 6, GREATEST}) {
                scene.leavesAlways("4: SORT " + sort, x -> x.make(sort), BAD);
                scene.then(x -> x.hold(new long[16])).leavesAlways("4: SORT " + sort + ", zeros",
                    x -> x.make(sort), BAD);
            }
            for (int sort = POINT; sort <= QUADRIC; sort++) {
                int made = sort;
                int length = Scene.lengthOf(scene.n, sort);
                Scene zeros = scene.then(x -> x.hold(new long[16]));
                int want = length == 0 ? BAD : NONE;
                zeros.leavesAlways("4: all are 0, SORT " + sort, x -> x.make(made), want);
                zeros.then(x -> x.put(0, Scene.P)).leavesAlways("4: 0 modulo p, SORT " + sort,
                    x -> x.make(made), want);
                if (length > 0 && length < 16) {
                    zeros.then(x -> x.put(length, 1)).leavesAlways(
                        "4: all of its are 0, SORT " + sort, x -> x.make(made), NONE);
                }
            }
            scene.then(x -> x.hold(lastLineTwice(scene.n))).leavesAlways("4: no inverse",
                x -> x.make(MAP), NONE);
            scene.leavesAlways("4: Qij and Qji are not alike", x -> x.make(QUADRIC), NONE);
            for (int k = 0; k < size; k++) {
                int place = k;
                if (k % (scene.n + 2) != 0) {
                    scene.then(x -> x.hold(unit(scene.n))).then(x -> x.put(place, 1)).leavesAlways(
                        "4: number " + k + " alone is not alike", x -> x.make(QUADRIC), NONE);
                }
            }
        }
        IN_PLANE.leavesAlways("4: PLANE is of space alone", x -> x.make(PLANE), BAD);
        long[][] noLines = {{1, 0, 0, 0, 0, 1}, {0, 1, 0, 0, 1, 0}, {0, 0, 1, 1, 0, 0},
            {1, 1, 1, 1, 1, 1}, {1, 2, 3, 4, 5, 6}};
        for (long[] row : noLines) {
            IN_SPACE.then(x -> x.hold(row)).leavesAlways("4: no LINE of space",
                x -> x.make(LINE), NONE);
        }
    }

    private static long[] unit(int n) {
        long[] square = new long[(n + 1) * (n + 1)];
        for (int k = 0; k < square.length; k += n + 2) {
            square[k] = 1;
        }
        return square;
    }

    /** A square whose last line is the sum of the others, modulo p alone. */
    private static long[] lastLineTwice(int n) {
        long[] square = unit(n);
        Arrays.fill(square, square.length - n - 1, square.length - 1, 1 + Scene.P);
        square[square.length - 1] = 0;
        return square;
    }

    private static void number() {
        for (Scene scene : BOTH) {
            for (int sort = POINT; sort <= QUADRIC; sort++) {
                int length = Scene.lengthOf(scene.n, sort);
                if (length == 0) {
                    continue;
                }
                int a = Scene.some(sort);
                for (int i : new int[] {LEAST, -1, length, length + 1, GREATEST}) {
                    scene.leavesAlways("5: number " + i + " of SORT " + sort,
                        x -> x.number(a, i), BAD);
                }
            }
        }
    }

    private static void join() {
        for (Scene scene : BOTH) {
            for (int a = A; a <= G; a++) {
                int same = a;
                scene.leavesAlways("7: POINTS are the same", x -> x.join(same, same), NONE);
            }
        }
        for (int a : new int[] {A, B, G}) {
            IN_SPACE.leavesAlways("7: the POINT is ON the LINE", x -> x.join(a, U), NONE);
            IN_SPACE.leavesAlways("7: the LINE goes through the POINT", x -> x.join(U, a), NONE);
        }
        IN_SPACE.leavesAlways("7: LINES are the same", x -> x.join(U, U), NONE);
        IN_SPACE.leavesAlways("7: LINES are the same", x -> x.join(S, S), NONE);
        IN_SPACE.leavesAlways("7: LINES that are not ON one another", x -> x.join(U, S), NONE);
        IN_SPACE.leavesAlways("7: LINES that are not ON one another", x -> x.join(S, U), NONE);
    }

    private static void meet() {
        for (int a : new int[] {U, V, W}) {
            IN_PLANE.leavesAlways("8: LINES are the same", x -> x.meet(a, a), NONE);
        }
        for (int a : new int[] {W, THROUGH_V, BESIDE_V}) {
            IN_SPACE.leavesAlways("8: PLANES are the same", x -> x.meet(a, a), NONE);
        }
        int[][] linesOnPlanes = {{U, THROUGH_V}, {U, BESIDE_V}, {V, THROUGH_V}};
        for (int[] two : linesOnPlanes) {
            IN_SPACE.leavesAlways("8: the LINE is ON the PLANE", x -> x.meet(two[0], two[1]), NONE);
            IN_SPACE.leavesAlways("8: the PLANE has the LINE", x -> x.meet(two[1], two[0]), NONE);
        }
        IN_SPACE.leavesAlways("8: LINES are the same", x -> x.meet(V, V), NONE);
        IN_SPACE.leavesAlways("8: LINES that are not ON one another", x -> x.meet(U, S), NONE);
        IN_SPACE.leavesAlways("8: LINES that are not ON one another", x -> x.meet(S, U), NONE);
    }

    /** Three of one SORT with RANK 2, and one that makes it 3. */
    private static List<int[]> threesAndOne(Scene scene) {
        int third = scene.next();
        return List.of(new int[] {A, B, G, C},
            scene.n == 2 ? new int[] {U, V, third, W} : new int[] {THROUGH_V, BESIDE_V, third, W});
    }

    /** With the third of the LINES or PLANES that threesAndOne names. */
    private static Scene withThird(Scene scene) {
        return scene.more(x -> {
            if (scene.n == 2) {
                x.row(LINE, 1, -1, 1);
            } else {
                x.row(PLANE, 0, 0, 1, 1);
            }
        });
    }

    private static void cross() {
        for (Scene scene : BOTH) {
            for (int[] t : threesAndOne(scene)) {
                Scene s = withThird(scene);
                s.leavesAlways("10: both are 0, a b c", x -> x.cross(t[0], t[0], t[0], t[1]), NONE);
                s.leavesAlways("10: both are 0, a b d", x -> x.cross(t[0], t[0], t[1], t[0]), NONE);
                s.leavesAlways("10: both are 0, a c d", x -> x.cross(t[0], t[1], t[0], t[0]), NONE);
                s.leavesAlways("10: both are 0, b c d", x -> x.cross(t[1], t[0], t[0], t[0]), NONE);
                s.leavesAlways("10: RANK 1", x -> x.cross(t[2], t[2], t[2], t[2]), NONE);
                for (int at = 0; at < 4; at++) {
                    int[] o = {t[0], t[1], t[2], t[0]};
                    o[at] = t[3];
                    s.leavesAlways("10: RANK 3", x -> x.cross(o[0], o[1], o[2], o[3]), NONE);
                }
                s.leavesAlways("10: RANK 3, two alike", x -> x.cross(t[0], t[1], t[3], t[3]), NONE);
                s.leaves("10: p, c is b", x -> x.cross(t[0], t[1], t[1], t[2]), Scene.P);
                s.leaves("10: p, d is a", x -> x.cross(t[0], t[1], t[2], t[0]), Scene.P);
                s.leaves("10: 0, c is a", x -> x.cross(t[0], t[1], t[0], t[2]), 0);
                s.leaves("10: 0, d is b", x -> x.cross(t[0], t[1], t[2], t[1]), 0);
                s.leaves("10: 1, b is a", x -> x.cross(t[0], t[0], t[1], t[2]), 1);
                s.leaves("10: 1, d is c", x -> x.cross(t[0], t[1], t[2], t[2]), 1);
                s.leaves("10: p of two", x -> x.cross(t[0], t[1], t[1], t[0]), Scene.P);
                s.leaves("10: 0 of two", x -> x.cross(t[0], t[1], t[0], t[1]), 0);
                s.leaves("10: 1 of two", x -> x.cross(t[0], t[0], t[1], t[1]), 1);
            }
        }
        IN_SPACE.leavesAlways("10: RANK 4", x -> x.cross(A, B, C, D), NONE);
    }

    private static void fourth() {
        for (Scene scene : BOTH) {
            for (int[] t : threesAndOne(scene)) {
                Scene s = withThird(scene);
                for (long v : new long[] {Long.MIN_VALUE, LEAST, -1, Scene.P + 1, 2 * Scene.P,
                    1L << 32, (1L << 32) + 1, -1L << 32, Long.MAX_VALUE}) {
                    s.leavesAlways("11: v is " + v, x -> x.fourth(t[0], t[1], t[2], v), BAD);
                }
                s.leavesAlways("11: BAD goes before NONE",
                    x -> x.fourth(t[0], t[0], t[0], -1), BAD);
                for (long v : new long[] {0, 1, 2, Scene.P - 1, Scene.P}) {
                    s.leavesAlways("11: a is b", x -> x.fourth(t[0], t[0], t[2], v), NONE);
                    s.leavesAlways("11: b is c", x -> x.fourth(t[0], t[1], t[1], v), NONE);
                    s.leavesAlways("11: a is c", x -> x.fourth(t[0], t[1], t[0], v), NONE);
                    s.leavesAlways("11: one alone", x -> x.fourth(t[2], t[2], t[2], v), NONE);
                    s.leavesAlways("11: RANK 3", x -> x.fourth(t[0], t[1], t[3], v), NONE);
                    s.leavesAlways("11: RANK 3", x -> x.fourth(t[3], t[1], t[2], v), NONE);
                }
            }
        }
    }

    private static void pair() {
        for (Scene scene : BOTH) {
            Scene most = scene.then(x -> Scene.lastPair(x, scene.n));
            most.leavesAlways("12: there are n + 2", x -> x.pair(A, A), FULL);
            most.leavesAlways("12: there are n + 2", x -> x.pair(E, G), FULL);
            most.leavesAlways("12: BAD goes before FULL", x -> x.pair(A, U), BAD);
            most.leavesAlways("12: BAD goes before FULL", x -> x.pair(U, A), BAD);
            most.leavesAlways("12: BAD goes before FULL", x -> x.pair(A, 60), BAD);
            most.leaves("12: told", x -> x.told(4), scene.n + 2);
            scene.full().answers("12: 60 OBJECTS do not matter", x -> x.pair(A, A), scene.n + 2);
        }
    }

    private static void map() {
        for (Scene scene : BOTH) {
            scene.leavesAlways("13: there are n + 1", x -> x.map(), NONE);
            Scene none = scene.without(Scene.PAIRED);
            none.leavesAlways("13: there is none", x -> x.map(), NONE);
            none.then(x -> x.pair(A, A)).leavesAlways("13: there is one", x -> x.map(), NONE);
        }
        // Those on the line, or plane, are the first; the last is elsewhere.
        oneOutside(IN_PLANE, new int[] {A, B, G, E}, new int[] {A, B, C, D});
        oneOutside(IN_SPACE.more(x -> x.row(POINT, 1, 1, 1, 0)),
            new int[] {A, B, C, IN_SPACE.next(), E}, new int[] {A, B, C, D, E});
    }

    /** That each n + 1 of the first ones, and of the second ones, are looked at. */
    private static void oneOutside(Scene scene, int[] dependent, int[] frame) {
        int last = frame.length - 1;
        Scene none = scene.without(Scene.PAIRED);
        for (int k = 0; k <= last; k++) {
            int[] turned = dependent.clone();
            turned[last] = dependent[k];
            turned[k] = dependent[last];
            none.then(x -> pairs(x, turned, frame)).leavesAlways(
                "13: RANK of the first ones but for " + k, x -> x.map(), NONE);
            none.then(x -> pairs(x, frame, turned)).leavesAlways(
                "13: RANK of the second ones but for " + k, x -> x.map(), NONE);
            int[] twice = frame.clone();
            twice[k] = frame[(k + 1) % frame.length];
            none.then(x -> pairs(x, twice, frame)).leavesAlways(
                "13: the same first one at " + k, x -> x.map(), NONE);
            none.then(x -> pairs(x, frame, twice)).leavesAlways(
                "13: the same second one at " + k, x -> x.map(), NONE);
        }
    }

    private static void pairs(Asked x, int[] from, int[] to) {
        for (int k = 0; k < from.length; k++) {
            x.pair(from[k], to[k]);
        }
    }

    private static void order() {
        for (Scene scene : BOTH) {
            // A map of order p - 1, times one of order p.
            scene.more(x -> x.row(MAP, scene.n == 2
                ? new long[] {1, 1, 0, 0, 1, 0, 0, 0, 2}
                : new long[] {1, 1, 0, 0, 0, 1, 0, 0, 0, 0, 1, 0, 0, 0, 0, 2})).leavesAlways(
                "17: not within 1000", x -> x.order(scene.next()), NONE);
        }
    }

    private static void gather() {
        for (Scene scene : BOTH) {
            Scene most = scene.then(x -> {
                for (int k = x.told(3); k < 9; k++) {
                    x.gather(E);
                }
            });
            most.leavesAlways("18: there are 9", x -> x.gather(A), FULL);
            most.leavesAlways("18: there are 9", x -> x.gather(E), FULL);
            most.leavesAlways("18: BAD goes before FULL", x -> x.gather(U), BAD);
            most.leavesAlways("18: BAD goes before FULL", x -> x.gather(60), BAD);
            most.leaves("18: told", x -> x.told(3), 9);
            scene.full().then(x -> x.forget()).answers("18: 60 OBJECTS do not matter",
                x -> x.gather(A), 1);
        }
    }

    private static void quadric() {
        for (Scene scene : BOTH) {
            scene.without(Scene.GATHERED).leavesAlways("20: nothing is gathered",
                x -> x.quadric(), NONE);
            scene.leavesAlways("20: one less than it takes", x -> x.quadric(), NONE);
            scene.then(x -> x.gather(A)).leavesAlways("20: a POINT twice is no POINT more",
                x -> x.quadric(), NONE);
            scene.without(Scene.GATHERED).then(x -> {
                for (int k = 0; k < 9; k++) {
                    x.gather(D);
                }
            }).leavesAlways("20: one POINT, 9 times", x -> x.quadric(), NONE);
            scene.without(Scene.GATHERED).more(x -> onTheLine(x, scene.n)).then(x -> {
                for (int k = 0; k < 9; k++) {
                    x.gather(scene.next() + k);
                }
            }).leavesAlways("20: 9 of one LINE: more than one", x -> x.quadric(), NONE);
        }
        IN_PLANE.without(Scene.GATHERED).more(x -> onTheLine(x, 2)).then(x -> {
            for (int k = 0; k < 4; k++) {
                x.gather(IN_PLANE.next() + k);
            }
            x.gather(D);
        }).leavesAlways("20: five, four of one LINE: more than one", x -> x.quadric(), NONE);
        IN_PLANE.more(x -> x.row(POINT, 1, 3, 4)).then(x -> {
            x.gather(E);
            x.gather(IN_PLANE.next());
        }).leavesAlways("20: six: there is none", x -> x.quadric(), NONE);
    }

    private static void onTheLine(Asked x, int n) {
        x.hold(new long[n + 1]);
        x.put(0, 1);
        for (int t = 11; t < 20; t++) {
            x.put(1, t);
            x.make(POINT);
        }
    }

    private static void polar() {
        for (Scene scene : BOTH) {
            scene.leavesAlways("22: Q x is 0", x -> x.polar(R, C), NONE);
            scene.leavesAlways("22: of LINE, PLANE the RANK is n", x -> x.polar(R, W), NONE);
            Scene one = scene.more(x -> {
                x.hold(new long[16]);
                x.put(0, 1);
                x.make(QUADRIC);
            });
            int q = scene.next();
            one.leavesAlways("22: RANK 1, Q x is 0", x -> x.polar(q, B), NONE);
            one.leavesAlways("22: RANK 1, of LINE, PLANE", x -> x.polar(q, W), NONE);
        }
        IN_PLANE.more(x -> x.polar(R, D)).leavesAlways("22: also of the polar of a POINT",
            x -> x.polar(R, IN_PLANE.next()), NONE);
        IN_SPACE.more(x -> x.polar(R, E)).leavesAlways("22: also of the polar of a POINT",
            x -> x.polar(R, IN_SPACE.next()), NONE);
    }

    /** LINES that share 0, 1, 2 and p + 1 POINTS with the QUADRIC Q, from next on in this order. */
    private static void sharing(Asked x, int n) {
        if (n == 2) {
            x.row(LINE, 2, 0, -1);
            x.row(LINE, 1, -2, 1);
            x.row(LINE, 6, -5, 1);
            x.row(QUADRIC, 0, 0, 0, 0, 0, 1, 0, 1, 0);
            return;
        }
        x.row(LINE, 1, 1, 0, 0, -2, -2);
        x.row(LINE, 1, 1, 0, 0, 0, 0);
        x.row(LINE, 0, 0, 1, 0, 0, 0);
    }

    private static void common() {
        long[] counts = {0, 1, 2};
        for (Scene scene : BOTH) {
            Scene s = scene.more(x -> sharing(x, scene.n));
            for (int k = 0; k < counts.length; k++) {
                int line = scene.next() + k;
                int count = (int) counts[k];
                s.leaves("23: how many", x -> x.touches(Q, line), count);
                for (int none : new int[] {count, count + 1, Scene.P, Scene.P + 1, GREATEST}) {
                    s.leavesAlways("24: not so many: " + none, x -> x.common(Q, line, none), NONE);
                }
                s.leavesAlways("24: k below 0", x -> x.common(Q, line, -1), BAD);
                s.leavesAlways("24: k below 0", x -> x.common(Q, line, LEAST), BAD);
            }
            int q = scene.n == 2 ? scene.next() + 3 : Q;
            s.leaves("23: all", x -> x.touches(q, U), Scene.P + 1);
            s.leavesAlways("24: p + 1", x -> x.common(q, U, Scene.P + 1), NONE);
            s.leavesAlways("24: the greatest", x -> x.common(q, U, GREATEST), NONE);
            s.leavesAlways("24: k below 0", x -> x.common(q, U, -1), BAD);
            s.leavesAlways("24: k below 0", x -> x.common(q, U, LEAST), BAD);
        }
    }

    private static void root() {
        for (Scene scene : BOTH) {
            for (long v : new long[] {2, 3, -2, 2 + Scene.P, 2 - Scene.P}) {
                scene.leavesAlways("25: there is none of " + v, x -> x.root(v), NONE);
            }
            scene.leavesAlways("25: asking changes nothing", x -> x.root(4), 2);
        }
    }

    private static void dual() {
        for (Scene scene : BOTH) {
            scene.leavesAlways("26: the RANK is n", x -> x.dual(R), NONE);
            scene.more(x -> {
                x.hold(new long[16]);
                x.put(0, 1);
                x.make(QUADRIC);
            }).leavesAlways("26: the RANK is 1", x -> x.dual(scene.next()), NONE);
        }
    }

    private static void parallel() {
        int[][] inPlane = {{U, V}, {V, U}, {U, U}};
        int[][] inSpace = {{U, V}, {U, U}, {U, S}, {THROUGH_V, BESIDE_V}, {W, W}, {U, THROUGH_V},
            {BESIDE_V, V}};
        for (int[] two : inPlane) {
            IN_PLANE.without(Scene.IDEAL).leavesAlways("28: no IDEAL one",
                x -> x.parallel(two[0], two[1]), NONE);
        }
        for (int[] two : inSpace) {
            IN_SPACE.without(Scene.IDEAL).leavesAlways("28: no IDEAL one",
                x -> x.parallel(two[0], two[1]), NONE);
        }
        int[][] idealInPlane = {{W, U}, {U, W}, {W, W}};
        for (int[] two : idealInPlane) {
            IN_PLANE.leavesAlways("28: one is", x -> x.parallel(two[0], two[1]), NONE);
        }
        int[][] idealInSpace = {{W, THROUGH_V}, {THROUGH_V, W}, {W, W}, {W, U}, {U, W}};
        for (int[] two : idealInSpace) {
            IN_SPACE.leavesAlways("28: one is", x -> x.parallel(two[0], two[1]), NONE);
        }
        Scene through = IN_SPACE.then(x -> x.ideal(THROUGH_V));
        int[][] onIt = {{U, V}, {V, U}, {U, U}, {U, S}, {S, U}, {U, BESIDE_V}, {BESIDE_V, U},
            {V, W}, {W, V}, {U, THROUGH_V}, {THROUGH_V, U}};
        for (int[] two : onIt) {
            through.leavesAlways("28: one is ON it", x -> x.parallel(two[0], two[1]), NONE);
        }
        for (Scene scene : BOTH) {
            scene.without(Scene.IDEAL).leavesAlways("28: BAD goes before NONE",
                x -> x.parallel(A, W), BAD);
            scene.leavesAlways("28: BAD goes before NONE", x -> x.parallel(W, A), BAD);
            scene.leavesAlways("28: the same ones", x -> x.parallel(U, U), 1);
            scene.leavesAlways("28: asking makes nothing", x -> x.parallel(U, V), 0);
        }
        IN_SPACE.leavesAlways("28: the same PLANES", x -> x.parallel(BESIDE_V, BESIDE_V), 1);
        IN_SPACE.leavesAlways("28: a LINE ON the PLANE", x -> x.parallel(U, THROUGH_V), 1);
        IN_SPACE.leavesAlways("28: a LINE ON the PLANE", x -> x.parallel(THROUGH_V, V), 1);
        IN_SPACE.leavesAlways("28: not ON one another", x -> x.parallel(U, S), 0);
        IN_SPACE.leavesAlways("28: not ON one another", x -> x.parallel(S, U), 0);
    }

    private static void middle() {
        for (Scene scene : BOTH) {
            scene.leavesAlways("29: the same", x -> x.middle(D, D), NONE);
            scene.without(Scene.IDEAL).leavesAlways("29: there is no IDEAL one",
                x -> x.middle(A, B), NONE);
            scene.without(Scene.IDEAL).leavesAlways("29: BAD goes before NONE",
                x -> x.middle(A, U), BAD);
            scene.without(Scene.IDEAL).leavesAlways("29: BAD goes before NONE",
                x -> x.middle(60, A), BAD);
            Scene far = scene.then(x -> x.ideal(scene.n == 2 ? U : THROUGH_V));
            far.leavesAlways("29: a is ON THE IDEAL", x -> x.middle(A, D), NONE);
            far.leavesAlways("29: b is ON THE IDEAL", x -> x.middle(D, A), NONE);
            far.leavesAlways("29: both are", x -> x.middle(A, B), NONE);
            far.leavesAlways("29: the same, ON THE IDEAL", x -> x.middle(A, A), NONE);
        }
    }

    private static void holdsIsBad() {
        for (int theorem : new int[] {LEAST, -2, -1, 3, 4, GREATEST}) {
            IN_PLANE.leavesAlways("30: theorem " + theorem, x -> x.holds(theorem), BAD);
            IN_PLANE.without(Scene.GATHERED).leavesAlways("30: theorem " + theorem,
                x -> x.holds(theorem), BAD);
            IN_SPACE.leavesAlways("30: theorem " + theorem, x -> x.holds(theorem), BAD);
            withSix(PAPPUS).leavesAlways("30: theorem " + theorem, x -> x.holds(theorem), BAD);
        }
        for (int theorem = 0; theorem <= 2; theorem++) {
            int asked = theorem;
            IN_SPACE.leavesAlways("30: in space", x -> x.holds(asked), BAD);
            Scene none = IN_SPACE.without(Scene.GATHERED);
            none.leavesAlways("30: in space", x -> x.holds(asked), BAD);
            none.then(x -> {
                for (int a : new int[] {A, B, G, C, H, D}) {
                    x.gather(a);
                }
            }).leavesAlways("30: six in space", x -> x.holds(asked), BAD);
        }
    }

    /** 0 2 4 on one line, 1 3 5 on another; both lines have the POINT 0 1 0. */
    private static final long[][] PAPPUS = {
        {1, 0, 0}, {1, 0, 1}, {1, 1, 0}, {1, 2, 1}, {1, 4, 0}, {1, 5, 1}};
    /** 0 3, 1 4, 2 5 on three lines through 1 0 0. */
    private static final long[][] DESARGUES = {
        {1, 1, 0}, {1, 0, 1}, {1, 1, 1}, {1, 3, 0}, {1, 0, 4}, {1, 2, 2}};
    /** On x0 x2 = x1 x1. */
    private static final long[][] PASCAL = {
        {1, 0, 0}, {1, 3, 9}, {1, 1, 1}, {1, 7, 49}, {0, 0, 1}, {1, 4, 16}};

    private static final int[][] HEXAGON = {{0, 1}, {3, 4}, {1, 2}, {4, 5}, {2, 3}, {5, 0}};

    /** The plane, with these POINTS gathered and no others. */
    private static Scene withSix(long[][] points) {
        return IN_PLANE.without(Scene.GATHERED).more(x -> {
            for (long[] point : points) {
                x.row(POINT, point);
            }
        }).then(x -> {
            for (long[] point : points) {
                x.gather(x.row(POINT, point));
            }
            Scene.holdMap(x, 2);
        });
    }

    private static void theorem(String what, int theorem, long[][] points, int want) {
        withSix(points).leavesAlways("30: theorem " + theorem + ": " + what,
            x -> x.holds(theorem), want);
    }

    /** The same points, but for some places. */
    private static long[][] but(long[][] points, long[] row, int... places) {
        long[][] result = points.clone();
        for (int place : places) {
            result[place] = row;
        }
        return result;
    }

    private static void holdsNotSix() {
        long[][][] sixes = {PAPPUS, DESARGUES, PASCAL};
        for (int theorem = 0; theorem <= 2; theorem++) {
            long[][] six = sixes[theorem];
            theorem("six", theorem, six, 1);
            for (int count = 0; count < 6; count++) {
                theorem("there are " + count, theorem, Arrays.copyOf(six, count), NONE);
            }
            for (int count = 7; count <= 9; count++) {
                long[][] more = Arrays.copyOf(six, count);
                for (int k = 6; k < count; k++) {
                    more[k] = six[k - 6];
                }
                theorem("there are " + count, theorem, more, NONE);
            }
        }
    }

    private static void holdsPappus() {
        theorem("0, 2, 4 have RANK 3", 0, but(PAPPUS, new long[] {1, 4, 2}, 4), NONE);
        theorem("0, 2, 4 have RANK 3", 0, but(PAPPUS, new long[] {1, 7, 3}, 0), NONE);
        theorem("1, 3, 5 have RANK 3", 0, but(PAPPUS, new long[] {1, 4, 2}, 5), NONE);
        theorem("1, 3, 5 have RANK 3", 0, but(PAPPUS, new long[] {1, 7, 3}, 3), NONE);
        long[] shared = {0, 1, 0};
        for (int[] side : HEXAGON) {
            theorem("no LINE " + side[0] + " " + side[1], 0, but(PAPPUS, shared, side), NONE);
        }
        int[][] equal = {{0, 4}, {1, 3}, {1, 5}, {2, 4}, {0, 2}, {3, 5}};
        for (int[] two : equal) {
            theorem("LINES are the same, by " + two[0] + " " + two[1], 0,
                but(PAPPUS, shared, two), NONE);
        }
        long[][] oneLine = {{1, 0, 0}, {1, 1, 0}, {1, 2, 0}, {1, 3, 0}, {1, 4, 0}, {1, 5, 0}};
        theorem("all LINES are the same", 0, oneLine, NONE);
        theorem("one is where both lines meet", 0, but(PAPPUS, shared, 0), 1);
        theorem("two are the same", 0, but(PAPPUS, PAPPUS[0], 2), 1);
        theorem("three are the same", 0, but(PAPPUS, PAPPUS[0], 2, 4), 1);
    }

    private static void holdsDesargues() {
        theorem("LINES 0 3, 1 4, 2 5 have RANK 3", 1, but(DESARGUES, new long[] {1, 2, 3}, 5),
            NONE);
        theorem("LINES 0 3, 1 4, 2 5 have RANK 3", 1, but(DESARGUES, new long[] {1, 2, 3}, 0),
            NONE);
        for (int k = 0; k < 3; k++) {
            theorem("no LINE " + k + " " + (k + 3), 1, but(DESARGUES, DESARGUES[k], k + 3), NONE);
            int i = k;
            int j = (k + 1) % 3;
            // Both on the ray of 0 3, so that nothing else is missing.
            long[][] row = {{1, 1, 0}, {1, 3, 0}, {1, 5, 0}, {1, 7, 0}};
            long[][] third = but(but(DESARGUES, DESARGUES[2], 3 - i - j), DESARGUES[5], 6 - i - j);
            theorem("no LINE " + i + " " + j, 1,
                but(but(but(third, row[0], i, j), row[1], i + 3), row[2], j + 3), NONE);
            theorem("no LINE " + (i + 3) + " " + (j + 3), 1,
                but(but(but(third, row[0], i + 3, j + 3), row[1], i), row[2], j), NONE);
            theorem("LINE " + i + " " + j + " once more", 1,
                but(but(but(but(third, row[0], i), row[1], j), row[2], i + 3), row[3], j + 3),
                NONE);
        }
        // 0 1 2 on one line: the three POINTS are on it, too.
        theorem("a triangle on a line", 1, but(DESARGUES, new long[] {2, 1, 1}, 2), 1);
    }

    private static void holdsPascal() {
        for (int k = 0; k < 6; k++) {
            theorem("no QUADRIC, by " + k, 2, but(PASCAL, new long[] {1, 11, 12}, k), NONE);
            int[] side = HEXAGON[k];
            theorem("no LINE " + side[0] + " " + side[1], 2,
                but(PASCAL, PASCAL[side[0]], side[1]), NONE);
        }
        for (int k = 0; k < 3; k++) {
            int i = k;
            int j = k + 1;
            int[] other = {(i + 3) % 6, (j + 3) % 6};
            theorem("LINES are the same", 2,
                but(but(PASCAL, PASCAL[i], other[0]), PASCAL[j], other[1]), NONE);
            theorem("LINES are the same, turned", 2,
                but(but(PASCAL, PASCAL[i], other[1]), PASCAL[j], other[0]), NONE);
        }
        theorem("two that are no neighbours are the same", 2, but(PASCAL, PASCAL[0], 2), 1);
        long[][] two = {{1, 0, 0}, {1, 1, 0}, {1, 2, 0}, {1, 0, 1}, {1, 3, 1}, {1, 5, 1}};
        theorem("POINTS that are the same have a RANK, too", 2, two, 1);
    }

    private static void told() {
        for (Scene scene : BOTH) {
            for (int what : new int[] {LEAST, -2, -1, 6, 7, GREATEST}) {
                scene.leavesAlways("31: told(" + what + ")", x -> x.told(what), BAD);
            }
            scene.without(Scene.IDEAL).leavesAlways("31: there is no IDEAL one",
                x -> x.told(5), NONE);
        }
    }
}
