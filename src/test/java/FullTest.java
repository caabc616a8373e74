import java.util.List;
import java.util.function.ToLongFunction;

/**
 * OBJECTS are 60 at most; what is made once more is the one that there is: of each call that makes
 * something, in the plane and in space. That BAD and NONE go before FULL is asked in RefusedTest.
 */
public final class FullTest {
    private static final int FULL = Check.FULL, NONE = Check.NONE;
    private static final int POINT = 0, LINE = 1, PLANE = 2, MAP = 3, QUADRIC = 4;
    private static final int A = Scene.A, B = Scene.B, C = Scene.C, D = Scene.D, E = Scene.E;
    private static final int G = Scene.G, U = Scene.U, V = Scene.V, W = Scene.W;
    private static final int Q = Scene.Q, M = Scene.M, N = Scene.N;
    private static final int H = Scene.H, S = Scene.S;
    private static final int THROUGH_V = Scene.THROUGH_V, BESIDE_V = Scene.BESIDE_V;

    private static final Scene IN_PLANE = Scene.of(2);
    private static final Scene IN_SPACE = Scene.of(3);
    private static final List<Scene> BOTH = List.of(IN_PLANE, IN_SPACE);

    /** Squares whose first numbers are also a POINT, a LINE, a PLANE, and all new. */
    private static final long[] PLANE_HAND = {1, 5, 7, 5, 2, 3, 7, 3, 4};
    private static final long[] SPACE_HAND = {1, 2, 1, 3, 2, 1, 5, 0, 1, 5, 2, 4, 3, 0, 4, 7};

    public static void main(String[] args) {
        make();
        join();
        meet();
        fourth();
        map();
        apply();
        composeAndInverse();
        quadric();
        polar();
        common();
        dual();
        middle();
        whatIsThereIsFound();
        sixty();
        Check.end("FullTest");
    }

    /** A call that makes what the scene does not have. */
    private static void maker(String what, Scene scene, ToLongFunction<Asked> call) {
        Asked x = scene.build();
        int before = x.told(2);
        Check.due(what + " makes the next OBJECT", call.applyAsLong(x), before);
        Check.due(what + " makes one", x.told(2), before + 1);
        Check.due(what + " once more", call.applyAsLong(x), before);
        Check.due(what + " once more makes none", x.told(2), before + 1);
        leavesTheRest(what, scene, call);

        scene.upTo(59).answers(what + " makes the 60th", call, 59);
        scene.upTo(59).then(y -> call.applyAsLong(y)).leaves(what + " is there", call, 59);
        scene.full().leaves(what + " has no room", call, FULL);
        scene.full().then(y -> call.applyAsLong(y)).answers(what + " made none",
            y -> y.told(2), 60);
    }

    /** What is made changes nothing but the OBJECTS, and for map the PAIRS. */
    private static void leavesTheRest(String what, Scene scene, ToLongFunction<Asked> call) {
        Asked x = scene.build();
        Asked twin = scene.build();
        call.applyAsLong(x);
        for (int told : new int[] {0, 1, 3, 4, 5}) {
            boolean isGone = told == 4 && what.startsWith("13");
            Check.due(what + " leaves told(" + told + ")", x.told(told),
                isGone ? 0 : twin.told(told));
        }
        int before = twin.told(2);
        int inHand = twin.make(MAP);
        if (inHand < before) {
            Check.due(what + " leaves the hand", x.make(MAP), inHand);
        }
    }

    private static void make() {
        for (Scene scene : BOTH) {
            long[] hand = scene.n == 2 ? PLANE_HAND : SPACE_HAND;
            for (int sort = POINT; sort <= QUADRIC; sort++) {
                int made = sort;
                // The hand can be seen later, since it is the ROW of an OBJECT of another SORT.
                int other = sort == MAP ? QUADRIC : MAP;
                if (scene.n == 3 || sort != PLANE) {
                    maker("4: make " + sort, scene.more(x -> x.row(other, hand)).then(
                        x -> x.hold(hand)), x -> x.make(made));
                }
            }
        }
    }

    private static void join() {
        maker("7: join POINTS", IN_PLANE, x -> x.join(A, E));
        maker("7: join POINTS of space", IN_SPACE, x -> x.join(A, E));
        maker("7: join POINT, LINE", IN_SPACE, x -> x.join(E, U));
        maker("7: join LINE, POINT", IN_SPACE, x -> x.join(U, E));
        maker("7: join LINES", IN_SPACE, x -> x.join(V, S));
    }

    private static void meet() {
        maker("8: meet LINES", IN_PLANE, x -> x.meet(U, W));
        maker("8: meet PLANES", IN_SPACE, x -> x.meet(THROUGH_V, W));
        maker("8: meet PLANE, LINE", IN_SPACE, x -> x.meet(W, U));
        maker("8: meet LINE, PLANE", IN_SPACE, x -> x.meet(U, W));
        int next = IN_SPACE.next();
        maker("8: meet LINES of space", IN_SPACE.more(x -> {
            x.join(B, C);
            x.join(G, H);
        }), x -> x.meet(next, next + 1));
    }

    private static void fourth() {
        for (Scene scene : BOTH) {
            maker("11: fourth POINT", scene, x -> x.fourth(A, B, G, 5));
        }
        maker("11: fourth LINE", IN_PLANE.more(x -> x.row(LINE, 1, -1, 1)),
            x -> x.fourth(U, V, IN_PLANE.next(), 5));
        maker("11: fourth PLANE", IN_SPACE.more(x -> x.row(PLANE, 0, 0, 1, 1)),
            x -> x.fourth(THROUGH_V, BESIDE_V, IN_SPACE.next(), 5));
    }

    private static void map() {
        for (Scene scene : BOTH) {
            Scene paired = scene.without(Scene.PAIRED).then(x -> otherPairs(x, scene.n));
            // Where the PAIRS are there already, more of them are refused.
            maker("13: map", paired, x -> {
                otherPairs(x, scene.n);
                return x.map();
            });
            paired.full().then(x -> x.map()).answers("13: the PAIRS stay", x -> x.told(4),
                scene.n + 2);
            paired.upTo(59).then(x -> x.map()).answers("13: no PAIR is left", x -> x.told(4), 0);
            Scene there = paired.upTo(59).then(x -> x.map()).then(x -> otherPairs(x, scene.n));
            there.answers("13: the MAP is there", x -> x.map(), 59);
            there.then(x -> x.map()).answers("13: no PAIR is left then", x -> x.told(4), 0);
        }
    }

    private static void otherPairs(Asked x, int n) {
        int[] from = n == 2 ? new int[] {A, B, C, D} : new int[] {A, B, C, D, E};
        int[] to = n == 2 ? new int[] {B, A, C, E} : new int[] {B, A, D, C, E};
        for (int k = 0; k < from.length; k++) {
            x.pair(from[k], to[k]);
        }
    }

    private static void apply() {
        for (Scene scene : BOTH) {
            maker("14: apply to a POINT", scene, x -> x.apply(M, E));
            maker("14: apply to the LINE, PLANE of ones", scene, x -> x.apply(M, W));
            maker("14: apply to a QUADRIC", scene, x -> x.apply(M, Q));
            maker("14: apply to a MAP", scene, x -> x.apply(M, N));
            scene.upTo(60).leaves("14: what a MAP leaves", x -> x.apply(M, A), A);
            scene.upTo(60).leaves("14: a MAP of itself", x -> x.apply(M, M), M);
        }
        maker("14: apply to a LINE of space", IN_SPACE, x -> x.apply(M, S));
    }

    private static void composeAndInverse() {
        for (Scene scene : BOTH) {
            maker("15: compose", scene, x -> x.compose(M, N));
            maker("16: inverse", scene, x -> x.inverse(M));
        }
    }

    private static void quadric() {
        for (Scene scene : BOTH) {
            // In space these points are those of Q.
            if (scene.n == 2) {
                maker("20: quadric", scene.then(x -> x.gather(E)), x -> x.quadric());
            } else {
                scene.full().then(x -> x.gather(E)).leaves("20: it is there", x -> x.quadric(), Q);
            }
        }
        int next = IN_SPACE.next();
        maker("20: quadric of space", IN_SPACE.more(x -> x.row(POINT, 1, 2, 3, 4)).then(
            x -> x.gather(next)), x -> x.quadric());
    }

    private static void polar() {
        for (Scene scene : BOTH) {
            Scene s = scene.more(x -> {
                x.row(POINT, 1, 2, 3, 4);
                x.row(scene.n - 1, 1, 2, 3, 4);
            });
            // In the plane the POINT is E.
            int point = scene.n == 2 ? E : scene.next();
            int flat = scene.n == 2 ? scene.next() : scene.next() + 1;
            maker("22: polar of a POINT", s, x -> x.polar(Q, point));
            maker("22: polar of LINE, PLANE", s, x -> x.polar(Q, flat));
        }
    }

    private static void common() {
        int line = IN_PLANE.next();
        Scene two = IN_PLANE.more(x -> x.row(LINE, 6, -5, 1));
        maker("24: the first common POINT", two, x -> x.common(Q, line, 0));
        maker("24: the second common POINT", two, x -> x.common(Q, line, 1));
        maker("24: of p + 1", IN_SPACE, x -> x.common(Q, U, 7));
        IN_SPACE.full().leaves("24: the first is there", x -> x.common(Q, U, 0), A);
        IN_SPACE.full().leaves("24: one is there", x -> x.common(Q, U, 1), G);
        IN_SPACE.full().leaves("24: the last is there", x -> x.common(Q, U, Scene.P), B);
        IN_SPACE.full().leaves("24: none is made of NONE", x -> x.common(Q, U, Scene.P + 1), NONE);
    }

    private static void dual() {
        for (Scene scene : BOTH) {
            int next = scene.next();
            maker("26: dual of a POINT", scene, x -> x.dual(G));
            maker("26: dual of a MAP", scene, x -> x.dual(M));
            maker("26: dual of LINE, PLANE", scene.more(x -> x.row(scene.n - 1, 1, 3, 5, 7)),
                x -> x.dual(next));
            long[] square = new long[(scene.n + 1) * (scene.n + 1)];
            for (int i = 0; i <= scene.n; i++) {
                square[i * (scene.n + 2)] = i + 1;
            }
            maker("26: dual of a QUADRIC", scene.more(x -> x.row(QUADRIC, square)),
                x -> x.dual(next));
        }
        maker("26: dual of a LINE of space", IN_SPACE, x -> x.dual(V));
        IN_PLANE.full().leaves("26: it is there", x -> x.dual(U), C);
        IN_SPACE.full().leaves("26: it is there", x -> x.dual(U), S);
        IN_SPACE.full().leaves("26: it is there", x -> x.dual(W), E);
        IN_SPACE.full().leaves("26: it is there", x -> x.dual(Q), Q);
    }

    private static void middle() {
        maker("29: middle", IN_PLANE, x -> x.middle(D, E));
        maker("29: middle in space", IN_SPACE, x -> x.middle(E, G));
        for (Scene scene : BOTH) {
            scene.full().leaves("29: it is there", x -> x.middle(A, B), G);
        }
    }

    private static void whatIsThereIsFound() {
        IN_PLANE.full().leaves("7: it is there", x -> x.join(A, G), U);
        IN_PLANE.full().leaves("8: it is there", x -> x.meet(V, U), G);
        IN_SPACE.full().leaves("7: it is there", x -> x.join(G, B), U);
        IN_SPACE.full().leaves("7: it is there", x -> x.join(C, U), THROUGH_V);
        IN_SPACE.full().leaves("7: it is there", x -> x.join(U, V), THROUGH_V);
        IN_SPACE.full().leaves("8: it is there", x -> x.meet(BESIDE_V, THROUGH_V), U);
        IN_SPACE.full().leaves("8: it is there", x -> x.meet(BESIDE_V, V), A);
        IN_SPACE.full().leaves("8: it is there", x -> x.meet(V, S), C);
        for (Scene scene : BOTH) {
            scene.full().leaves("11: v is 0", x -> x.fourth(A, B, G, 0), B);
            scene.full().leaves("11: v is 1", x -> x.fourth(A, B, G, 1), G);
            scene.full().leaves("11: v is p", x -> x.fourth(A, B, G, Scene.P), A);
        }
    }

    /** The same ROW in another SORT is another OBJECT; multiples are not. */
    private static void sixty() {
        for (int n = 2; n <= 3; n++) {
            int width = n + 1;
            Asked x = new Asked();
            x.begin(n, 10007);
            x.hold(new long[width]);
            x.put(0, 2);
            for (int t = 0; t < 58; t++) {
                x.put(1, t);
                Check.due("OBJECTS are counted from 0", x.make(POINT), t);
            }
            x.put(1, 0);
            Check.due("the same ROW of another SORT", x.make(n - 1), 58);
            Check.due("its SORT", x.sort(58), n - 1);
            Check.due("the POINT is there", x.make(POINT), 0);
            x.put(1, 58);
            Check.due("the 60th", x.make(POINT), 59);
            Check.due("told", x.told(2), 60);
            Check.due("the POINT's ROW once more, as LINE or PLANE", x.make(n - 1), FULL);
            x.put(1, 59);
            Check.due("the 61st", x.make(POINT), FULL);
            x.put(0, 4);
            x.put(1, 2 * 58);
            Check.due("a multiple", x.make(POINT), 59);
            Check.due("told", x.told(2), 60);
            Check.due("begin makes room", x.begin(n, 10007), 1);
            Check.due("none is left", x.sort(0), Check.BAD);
            x.put(0, 1);
            Check.due("counted from 0 again", x.make(POINT), 0);
        }
    }
}
