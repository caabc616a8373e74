import java.util.ArrayList;
import java.util.Arrays;
import java.util.List;
import java.util.function.Consumer;
import java.util.function.ToLongFunction;

/**
 * A world modulo 101 that is built by the same calls each time, so that two of it can be compared:
 * one that was asked something, and its twin that was not.
 */
final class Scene {
    static final int POINT = 0, LINE = 1, PLANE = 2, MAP = 3, QUADRIC = 4;
    static final int P = 101;
    static final int MOST = 60;
    /** Parts of the state that a scene can be without. */
    static final int GATHERED = 1, PAIRED = 2, IDEAL = 4;

    /** In the plane and in space: e0, e1, e2, then (1, 1, 1) and (1, 2, 3), or e3 and ones. */
    static final int A = 0, B = 1, C = 2, D = 3, E = 4;
    /** A point of the line U, which is A B; V meets U: in the plane it is C D G, in space A C. */
    static final int G = 5, U = 6, V = 7;
    /** The line or plane of ones; the quadrics have the rank n + 1 and n; the maps are any. */
    static final int W = 8, Q = 9, R = 10, M = 11, N = 12;
    /** In space alone. S is C D, which does not meet U; both planes go through U, one through V. */
    static final int H = 13, J = 14, K = 15, S = 16, THROUGH_V = 17, BESIDE_V = 18;

    private static final long[] PLANE_MAP = {1, 1, 0, 0, 2, 0, 0, 0, 3};
    private static final long[] SPACE_MAP = {1, 1, 0, 0, 0, 2, 1, 0, 0, 0, 3, 1, 0, 0, 0, 5};

    final int n;
    private final List<Consumer<Asked>> more;
    private final List<Consumer<Asked>> later;
    private final int state;
    private final int objects;

    private Scene(int n, List<Consumer<Asked>> more, List<Consumer<Asked>> later, int state,
            int objects) {
        this.n = n;
        this.more = more;
        this.later = later;
        this.state = state;
        this.objects = objects;
    }

    static Scene of(int n) {
        return new Scene(n, List.of(), List.of(), GATHERED | PAIRED | IDEAL, 0);
    }

    private static <T> List<T> with(List<T> list, T one) {
        List<T> result = new ArrayList<>(list);
        result.add(one);
        return result;
    }

    /** With objects more, that are made before the scene is filled up. */
    Scene more(Consumer<Asked> step) {
        return new Scene(n, with(more, step), later, state, objects);
    }

    /** With a step behind all others. */
    Scene then(Consumer<Asked> step) {
        return new Scene(n, more, with(later, step), state, objects);
    }

    /** With nothing gathered, or nothing paired, or without an ideal one. */
    Scene without(int part) {
        return new Scene(n, more, later, state & ~part, objects);
    }

    /** Nothing is gathered or paired, and there is no ideal one. */
    Scene quiet() {
        return without(GATHERED | PAIRED | IDEAL);
    }

    /** Filled up to so many objects. */
    Scene upTo(int count) {
        return new Scene(n, more, later, state, count);
    }

    Scene full() {
        return upTo(MOST);
    }

    /** The first object that the scene does not name. */
    int next() {
        return n == 2 ? N + 1 : BESIDE_V + 1;
    }

    Asked build() {
        Asked x = new Asked();
        x.begin(n, P);
        if (n == 2) {
            planeObjects(x);
        } else {
            spaceObjects(x);
        }
        more.forEach(step -> step.accept(x));
        lead(x);
        fill(x);
        holdMap(x, n);
        later.forEach(step -> step.accept(x));
        return x;
    }

    /** Puts the row of M in hand. */
    static void holdMap(Asked x, int n) {
        x.hold(n == 2 ? PLANE_MAP : SPACE_MAP);
    }

    private static void planeObjects(Asked x) {
        long[][] points = {{1, 0, 0}, {0, 1, 0}, {0, 0, 1}, {1, 1, 1}, {1, 2, 3}, {1, 1, 0}};
        for (long[] point : points) {
            x.row(POINT, point);
        }
        x.row(LINE, 0, 0, 1);
        x.row(LINE, 1, -1, 0);
        x.row(LINE, 1, 1, 1);
        x.row(QUADRIC, 0, 0, 1, 0, -2, 0, 1, 0, 0);
        x.row(QUADRIC, 1, 0, 0, 0, 2, 0, 0, 0, 0);
        x.row(MAP, PLANE_MAP);
        due("the plane's objects", x.row(MAP, 0, 0, 1, 1, 0, 0, 0, 1, 0), N);
    }

    private static void spaceObjects(Asked x) {
        long[][] points = {{1, 0, 0, 0}, {0, 1, 0, 0}, {0, 0, 1, 0}, {0, 0, 0, 1}, {1, 1, 1, 1},
            {1, 1, 0, 0}};
        for (long[] point : points) {
            x.row(POINT, point);
        }
        x.row(LINE, 1, 0, 0, 0, 0, 0);
        x.row(LINE, 0, 1, 0, 0, 0, 0);
        x.row(PLANE, 1, 1, 1, 1);
        x.row(QUADRIC, 0, 0, 0, 1, 0, 0, -1, 0, 0, -1, 0, 0, 1, 0, 0, 0);
        x.row(QUADRIC, 1, 0, 0, 0, 0, 2, 0, 0, 0, 0, 0, 0, 0, 0, 0, 3);
        x.row(MAP, SPACE_MAP);
        x.row(MAP, 0, 0, 0, 1, 1, 0, 0, 0, 0, 1, 0, 0, 0, 0, 1, 0);
        x.row(POINT, 1, 0, 1, 0);
        x.row(POINT, 0, 1, 0, 1);
        x.row(POINT, 0, 0, 1, 1);
        x.row(LINE, 0, 0, 0, 0, 0, 1);
        x.row(PLANE, 0, 0, 0, 1);
        due("space's objects", x.row(PLANE, 0, 0, 1, 0), BESIDE_V);
    }

    /** One point less than a quadric needs, one pair less than a map needs, and an ideal one. */
    private void lead(Asked x) {
        int[] points = n == 2 ? new int[] {A, B, C, D} : new int[] {A, B, C, D, G, H, J, K};
        for (int k = 0; (state & GATHERED) != 0 && k < points.length; k++) {
            x.gather(points[k]);
        }
        for (int k = 0; (state & PAIRED) != 0 && k <= n; k++) {
            x.pair(k, (k + 1) % (n + 1));
        }
        if ((state & IDEAL) != 0) {
            due("the ideal one", x.ideal(W), Check.NONE);
        }
    }

    static int lastPair(Asked x, int n) {
        return n == 2 ? x.pair(D, E) : x.pair(E, E);
    }

    /** Quadrics of ones but for the first number: one call to put, one to make. */
    private void fill(Asked x) {
        if (objects == 0) {
            return;
        }
        int missing = objects - x.told(2);
        for (int i = 1; i < (n + 1) * (n + 1); i++) {
            x.put(i, 1);
        }
        int made = 0;
        for (int t = 30; t < 30 + missing; t++) {
            x.put(0, t);
            made = x.make(QUADRIC);
        }
        due("filled up", made, objects - 1);
    }

    private static void due(String what, long got, long want) {
        Check.due(what, got, want);
    }

    private String name(String what) {
        String where = n == 2 ? ", in the plane" : ", in space";
        return what + where + (objects == 0 ? "" : ", filled up");
    }

    /** Asks for a call's answer. */
    void answers(String what, ToLongFunction<Asked> call, long want) {
        due(name(what), call.applyAsLong(build()), want);
    }

    /** Asks for a call's answer, and that later answers are as if the call had not been. */
    void leaves(String what, ToLongFunction<Asked> call, long want) {
        Asked asked = build();
        due(name(what), call.applyAsLong(asked), want);
        int place = Arrays.mismatch(all(asked, n), all(build(), n));
        due(name(what) + ": the first later answer that has changed", place, -1);
    }

    /** The same here, and where there is no room for an object more. */
    void leavesAlways(String what, ToLongFunction<Asked> call, long want) {
        leaves(what, call, want);
        full().leaves(what, call, want);
    }

    /** What can be seen of an object: the hand, what is told, what calls make of the rest. */
    static long[] all(Asked x, int n) {
        List<Long> seen = new ArrayList<>();
        // The hand first: it is seen where it holds the row of an object that is there.
        seen.add((long) x.make(MAP));
        for (int what = 0; what <= 5; what++) {
            seen.add((long) x.told(what));
        }
        seen.add((long) x.make(QUADRIC));
        // The objects between are those that fill the scene up, and calls are few.
        int named = n == 2 ? N + 1 : BESIDE_V + 1;
        for (int a = 0; a < named; a++) {
            int sort = x.sort(a);
            seen.add((long) sort);
            for (int i = 0; i < lengthOf(n, sort); i++) {
                seen.add((long) x.number(a, i));
            }
        }
        for (int a = MOST - 3; a <= MOST; a++) {
            seen.add((long) x.sort(a));
        }
        seen.add((long) x.gather(E));
        seen.add((long) x.quadric());
        seen.add((long) x.gather(G));
        for (int theorem = 0; theorem <= 2; theorem++) {
            seen.add((long) x.holds(theorem));
        }
        seen.add((long) x.forget());
        seen.add((long) lastPair(x, n));
        seen.add((long) x.map());
        seen.add((long) x.pair(A, A));
        seen.add((long) x.ideal(W));
        seen.add((long) x.put(0, -1));
        seen.add((long) x.make(POINT));
        return seen.stream().mapToLong(Long::longValue).toArray();
    }

    /** How many numbers a sort has; 0 if there is no such sort. */
    static int lengthOf(int n, int sort) {
        if (sort < POINT || sort > QUADRIC || (n == 2 && sort == PLANE)) {
            return 0;
        }
        if (sort == LINE) {
            return n == 2 ? 3 : 6;
        }
        return sort < MAP ? n + 1 : (n + 1) * (n + 1);
    }

    /** One of the scene's objects of a sort. */
    static int some(int sort) {
        int[] ones = {E, U, THROUGH_V, M, Q};
        return ones[sort];
    }
}
