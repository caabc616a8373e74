import java.math.BigInteger;

/** Each promise by its number: ordinary inputs, the edges that the document names, wrong inputs. */
public final class PromisesTest {
    private static final int NONE = Check.NONE, BAD = Check.BAD, FULL = Check.FULL;
    private static final int POINT = 0, LINE = 1, PLANE = 2, MAP = 3, QUADRIC = 4;
    private static final int GREATEST = 2147483647;

    public static void main(String[] args) {
        promise1();
        promise2();
        promise3();
        promise4InThePlane();
        promise4InSpace();
        promises5And6();
        promise7();
        promise8();
        promise9();
        promise10();
        promise11();
        promise12();
        promise13();
        promise14();
        promises15And16();
        promise17();
        promises18And19();
        promise20();
        promise21();
        promise22();
        promises23And24();
        promises23And24GreatestPrime();
        promise25();
        promise26();
        promise27();
        promise28InThePlane();
        promise28InSpace();
        promise29();
        promise30Pappus();
        promise30Desargues();
        promise30Pascal();
        promise31();
        full();
        refusedChangesNothing();
        Check.end("PromisesTest");
    }

    private static void due(String what, long got, long want) {
        Check.due(what, got, want);
    }

    private static void promise1() {
        ProjectiveRows x = new ProjectiveRows();
        due("1: n", x.told(0), 2);
        due("1: p", x.told(1), 3);
        due("1: objects", x.told(2), 0);
        due("1: gathered", x.told(3), 0);
        due("1: pairs", x.told(4), 0);
        due("1: ideal", x.told(5), NONE);
        due("1: nothing in hand", x.make(POINT), NONE);
    }

    private static void promise2() {
        int[] noPrimes = {Integer.MIN_VALUE, -7, -3, -1, 0, 1, 2, 4, 9, 15, 25, 49, 91, 121, 561,
            1000001, 2147395600, 2147302921, 2147483646, 2147483645};
        ProjectiveRows x = new ProjectiveRows();
        for (int p : noPrimes) {
            due("2: begin(2, " + p + ")", x.begin(2, p), BAD);
            due("2: begin(3, " + p + ")", x.begin(3, p), BAD);
        }
        int[] primes = {3, 5, 7, 11, 101, 65537, 1000003, 2147483629, GREATEST};
        for (int p : primes) {
            for (int n = 2; n <= 3; n++) {
                due("2: begin(" + n + ", " + p + ")", x.begin(n, p), 1);
                due("2: n", x.told(0), n);
                due("2: p", x.told(1), p);
            }
        }
        int[] noDimensions = {Integer.MIN_VALUE, -2, 0, 1, 4, Integer.MAX_VALUE};
        for (int n : noDimensions) {
            due("2: begin(" + n + ", 5)", x.begin(n, 5), BAD);
        }
        due("2: the refused left p", x.told(1), GREATEST);
        for (int p = 0; p < 3000; p++) {
            int want = p != 2 && BigInteger.valueOf(p).isProbablePrime(60) ? 1 : BAD;
            due("2: begin(2, " + p + ")", new ProjectiveRows().begin(2, p), want);
        }
        allGoes();
    }

    private static void allGoes() {
        ProjectiveRows x = Check.begun(2, 5);
        int a = Check.point(x, 1, 2, 3);
        int u = Check.line(x, 1, 1, 1);
        x.gather(a);
        x.pair(a, a);
        x.ideal(u);
        x.put(7, 4);
        due("2: refused", x.begin(2, 6), BAD);
        due("2: objects stay", x.told(2), 2);
        due("2: gathered stay", x.told(3), 1);
        due("2: pairs stay", x.told(4), 1);
        due("2: ideal stays", x.told(5), u);
        due("2: begin again", x.begin(2, 5), 1);
        for (int what = 2; what <= 4; what++) {
            due("2: told(" + what + ") is gone", x.told(what), 0);
        }
        due("2: ideal is gone", x.told(5), NONE);
        due("2: objects are gone", x.sort(0), BAD);
        for (int sort = 0; sort <= 4; sort++) {
            due("2: nothing in hand", x.make(sort), sort == PLANE ? BAD : NONE);
        }
        due("2: counted from 0 again", Check.point(x, 0, 0, 1), 0);
    }

    private static void promise3() {
        ProjectiveRows x = Check.begun(2, 7);
        due("3: 5", x.put(0, 5), 5);
        due("3: 7", x.put(0, 7), 0);
        due("3: 15", x.put(15, 15), 1);
        due("3: -1", x.put(0, -1), 6);
        due("3: -7", x.put(0, -7), 0);
        due("3: greatest", x.put(0, Long.MAX_VALUE), Long.MAX_VALUE % 7);
        due("3: least", x.put(0, Long.MIN_VALUE), Math.floorMod(Long.MIN_VALUE, 7L));
        int[] outside = {Integer.MIN_VALUE, -1, 16, 17, Integer.MAX_VALUE};
        for (int i : outside) {
            due("3: put(" + i + ", 1)", x.put(i, 1), BAD);
        }
        x.begin(3, GREATEST);
        due("3: p", x.put(0, GREATEST), 0);
        due("3: p - 1", x.put(0, -1), GREATEST - 1);
        due("3: least", x.put(0, Long.MIN_VALUE), Math.floorMod(Long.MIN_VALUE, (long) GREATEST));
    }

    private static void promise4InThePlane() {
        ProjectiveRows x = Check.begun(2, 7);
        due("4: no sort 2", x.make(PLANE), BAD);
        due("4: no sort -1", x.make(-1), BAD);
        due("4: no sort 5", x.make(5), BAD);
        due("4: no sort", x.make(Integer.MIN_VALUE), BAD);
        due("4: a point", Check.point(x, 0, 3, 5), 0);
        Check.row(x, "4: the point", 0, POINT, 0, 1, 4);
        due("4: its multiple", Check.point(x, 0, 6, 3), 0);
        due("4: a line of the same numbers", x.make(LINE), 1);
        due("4: zeros", Check.point(x, 0, 0, 0), NONE);
        due("4: zeros, no map", x.make(MAP), NONE);
        due("4: a quadric may have rank 1", Check.make(x, QUADRIC, 0, 0, 0, 0, 0, 0, 0, 0, 3), 2);
        Check.row(x, "4: the quadric", 2, QUADRIC, 0, 0, 0, 0, 0, 0, 0, 0, 1);
        due("4: it is no map", x.make(MAP), NONE);
        due("4: no quadric", Check.make(x, QUADRIC, 1, 2, 3, 2, 1, 4, 3, 5, 1), NONE);
        due("4: but a map", x.make(MAP), 3);
        due("4: a map's multiple", Check.make(x, MAP, 2, 4, 6, 4, 2, 1, 6, 3, 2), 3);
        due("4: numbers alike modulo p", Check.make(x, QUADRIC, 1, 2, 3, 9, 1, 4, -4, 11, 1), 4);
        due("4: no inverse modulo p", Check.make(x, MAP, 1, 0, 0, 0, 2, 1, 0, 3, 5), NONE);
        due("4: what is behind does not count", x.put(9, 5), 5);
        due("4: still", x.make(QUADRIC), NONE);
    }

    private static void promise4InSpace() {
        ProjectiveRows x = Check.begun(3, 5);
        due("4: a point", Check.point(x, 0, 0, 2, 4), 0);
        Check.row(x, "4: the point", 0, POINT, 0, 0, 1, 2);
        due("4: a plane", x.make(PLANE), 1);
        due("4: no line", Check.line(x, 1, 0, 0, 0, 0, 1), NONE);
        due("4: a line", Check.line(x, 2, 2, 4, 0, 2, 2), 2);
        Check.row(x, "4: the line", 2, LINE, 1, 1, 2, 0, 1, 1);
        due("4: 1 - 6 + 1 is not 0", Check.line(x, 1, 2, 1, 1, 3, 1), NONE);
        due("4: modulo p", Check.line(x, 2, 2, 4, 5, 7, -3), 2);
        due("4: zeros", Check.line(x, 0, 0, 0, 0, 0, 0), NONE);
        due("4: zeros, no plane", x.make(PLANE), NONE);
        due("4: a map", Check.make(x, MAP, 0, 1, 0, 0, 0, 0, 1, 0, 0, 0, 0, 1, 3, 0, 0, 0), 3);
        due("4: that is no quadric", x.make(QUADRIC), NONE);
        due("4: rank 3", Check.make(x, MAP, 1, 0, 0, 0, 0, 1, 0, 0, 0, 0, 1, 0, 1, 1, 1, 0), NONE);
        due("4: the last number", x.put(15, 2), 2);
        due("4: rank 4", x.make(MAP), 4);
        due("4: objects", x.told(2), 5);
    }

    private static void promises5And6() {
        ProjectiveRows x = Check.begun(2, 7);
        due("5: no object", x.number(0, 0), BAD);
        due("6: no object", x.sort(0), BAD);
        int q = Check.make(x, QUADRIC, 0, 2, 0, 2, 0, 0, 0, 0, 4);
        Check.row(x, "5: quadric", q, QUADRIC, 0, 1, 0, 1, 0, 0, 0, 0, 2);
        int a = Check.point(x, 3, 1, 0);
        Check.row(x, "5: point", a, POINT, 1, 5, 0);
        int[] outside = {Integer.MIN_VALUE, -3, -1, 2, 60, Integer.MAX_VALUE};
        for (int b : outside) {
            due("5: number of " + b, x.number(b, 0), BAD);
            due("6: sort of " + b, x.sort(b), BAD);
        }
        due("5: number -1", x.number(a, -1), BAD);
        due("5: number 3", x.number(a, 3), BAD);
        due("5: least number", x.number(a, Integer.MIN_VALUE), BAD);
        due("5: greatest number", x.number(a, Integer.MAX_VALUE), BAD);
    }

    private static void promise7() {
        ProjectiveRows x = Check.begun(2, 7);
        int a = Check.point(x, 1, 2, 3);
        int b = Check.point(x, 1, 0, 5);
        int u = x.join(a, b);
        Check.row(x, "7: the line", u, LINE, 1, 4, 4);
        due("7: the other way round", x.join(b, a), u);
        due("7: the same", x.join(a, a), NONE);
        due("7: point and line of the plane", x.join(a, u), BAD);
        due("7: lines of the plane", x.join(u, u), BAD);
        due("7: no object", x.join(a, 3), BAD);
        due("7: no object", x.join(-1, a), BAD);

        x = Check.begun(3, 5);
        a = Check.point(x, 1, 0, 2, 1);
        b = Check.point(x, 0, 1, 1, 3);
        int c = Check.point(x, 1, 1, 0, 0);
        u = x.join(a, b);
        Check.row(x, "7: the line of space", u, LINE, 1, 1, 3, 3, 4, 0);
        due("7: the same points", x.join(b, b), NONE);
        due("7: the point is on the line", x.join(u, Check.point(x, 1, 1, 3, 4)), NONE);
        int e = x.join(c, u);
        due("7: the plane", x.sort(e), PLANE);
        due("7: a on it", x.on(a, e), 1);
        due("7: b on it", x.on(b, e), 1);
        due("7: c on it", x.on(c, e), 1);
        due("7: in any order", x.join(u, c), e);
        int v = x.join(b, c);
        due("7: the plane of two lines", x.join(u, v), e);
        due("7: of two lines, in any order", x.join(v, u), e);
        due("7: the same lines", x.join(u, u), NONE);
        int d = Check.point(x, 0, 0, 0, 1);
        due("7: d is elsewhere", x.on(d, e), 0);
        due("7: lines that do not meet", x.join(u, x.join(c, d)), NONE);
        due("7: point and plane", x.join(a, e), BAD);
        due("7: line and plane", x.join(u, e), BAD);
        due("7: two planes", x.join(e, e), BAD);
    }

    private static void promise8() {
        ProjectiveRows x = Check.begun(2, 7);
        int u = Check.line(x, 1, 2, 3);
        int v = Check.line(x, 1, 0, 5);
        int a = x.meet(u, v);
        Check.row(x, "8: the point", a, POINT, 1, 4, 4);
        due("8: the other way round", x.meet(v, u), a);
        due("8: the same", x.meet(u, u), NONE);
        due("8: point and line", x.meet(a, u), BAD);
        due("8: points", x.meet(a, a), BAD);
        due("8: no object", x.meet(u, 9), BAD);

        x = Check.begun(3, 5);
        int e = Check.plane(x, 0, 0, 0, 1);
        int f = Check.plane(x, 0, 0, 1, 0);
        u = x.meet(e, f);
        Check.row(x, "8: the line of two planes", u, LINE, 1, 0, 0, 0, 0, 0);
        due("8: the same planes", x.meet(e, e), NONE);
        due("8: the line is on the plane", x.meet(u, f), NONE);
        int g = Check.plane(x, 1, 1, 1, 1);
        a = x.meet(g, u);
        Check.row(x, "8: plane and line", a, POINT, 1, 4, 0, 0);
        due("8: in any order", x.meet(u, g), a);
        v = x.meet(e, g);
        Check.row(x, "8: another line", v, LINE, 1, 4, 0, 1, 0, 0);
        due("8: two lines", x.meet(u, v), a);
        due("8: two lines, in any order", x.meet(v, u), a);
        due("8: the same lines", x.meet(v, v), NONE);
        int w = Check.line(x, 0, 0, 0, 0, 0, 1);
        due("8: lines that do not meet", x.meet(u, w), NONE);
        due("8: point and plane", x.meet(a, e), BAD);
        due("8: point and line", x.meet(u, a), BAD);
    }

    private static void promise9() {
        ProjectiveRows x = Check.begun(2, 7);
        int a = Check.point(x, 1, 2, 3);
        int u = Check.line(x, 1, 1, 6);
        int v = Check.line(x, 1, 1, 1);
        int q = Check.make(x, QUADRIC, 1, 0, 0, 0, 3, 0, 0, 0, 4);
        int r = Check.make(x, QUADRIC, 1, 0, 0, 0, 1, 0, 0, 0, 1);
        int m = Check.make(x, MAP, 1, 0, 0, 0, 1, 0, 0, 0, 1);
        due("9: on the line", x.on(a, u), 1);
        due("9: in any order", x.on(v, a), 0);
        due("9: on the quadric", x.on(a, q), 1);
        due("9: on the other", x.on(r, a), 1);
        due("9: not on a quadric", x.on(Check.point(x, 1, 0, 0), r), 0);
        due("9: two points", x.on(a, a), BAD);
        due("9: two lines of the plane", x.on(u, v), BAD);
        due("9: line and quadric", x.on(u, q), BAD);
        due("9: two quadrics", x.on(q, q), BAD);
        due("9: map", x.on(m, a), BAD);
        due("9: no object", x.on(a, 99), BAD);

        x = Check.begun(3, 5);
        int b = Check.point(x, 1, 1, 0, 0);
        int e = Check.plane(x, 0, 0, 0, 1);
        int f = Check.plane(x, 1, 0, 0, 0);
        u = Check.line(x, 1, 0, 0, 0, 0, 0);
        v = Check.line(x, 0, 0, 0, 0, 0, 1);
        int w = Check.line(x, 1, 1, 0, 1, 0, 0);
        due("9: point and plane", x.on(b, e), 1);
        due("9: plane and point", x.on(f, b), 0);
        due("9: point and line", x.on(b, u), 1);
        due("9: line and point", x.on(v, b), 0);
        due("9: line and plane", x.on(u, e), 1);
        due("9: plane and line", x.on(f, u), 0);
        due("9: the same line", x.on(u, u), 1);
        due("9: lines that meet", x.on(u, w), 1);
        due("9: lines that do not", x.on(u, v), 0);
        due("9: two planes", x.on(e, f), BAD);
        q = Check.make(x, QUADRIC, 1, 0, 0, 0, 0, 4, 0, 0, 0, 0, 0, 0, 0, 0, 0, 3);
        due("9: quadric of space", x.on(q, b), 1);
        due("9: plane and quadric", x.on(e, q), BAD);
    }

    private static void promise10() {
        ProjectiveRows x = Check.begun(2, 7);
        int a = Check.point(x, 1, 0, 0);
        int b = Check.point(x, 0, 0, 1);
        int c = Check.point(x, 1, 0, 1);
        int d = Check.point(x, 1, 0, 3);
        // [a c] 1, [b d] -1, [b c] -1, [a d] 3 at the places 0, 2.
        due("10: a third", x.cross(a, b, c, d), 5);
        due("10: turned", x.cross(b, a, c, d), 3);
        due("10: b and c changed", x.cross(a, c, b, d), 3);
        due("10: d is c", x.cross(a, b, c, c), 1);
        due("10: d is b", x.cross(a, b, c, b), 0);
        due("10: d is a", x.cross(a, b, c, a), 7);
        due("10: c is a", x.cross(a, b, a, d), 0);
        due("10: c is b", x.cross(a, b, b, d), 7);
        due("10: a is b", x.cross(a, a, c, d), 1);
        due("10: three are the same", x.cross(a, a, a, d), NONE);
        due("10: three others", x.cross(a, c, c, c), NONE);
        due("10: all are the same", x.cross(c, c, c, c), NONE);
        due("10: rank 3", x.cross(a, b, c, Check.point(x, 1, 1, 1)), NONE);
        int u = Check.line(x, 1, 0, 0);
        due("10: points and a line", x.cross(a, b, c, u), BAD);
        due("10: a line first", x.cross(u, b, c, d), BAD);
        due("10: no object", x.cross(a, b, c, 60), BAD);
        int v = x.dual(b);
        int w = x.dual(c);
        int z = x.dual(d);
        due("10: lines of the plane", x.cross(u, v, w, z), 5);
        int q = Check.make(x, QUADRIC, 1, 0, 0, 0, 1, 0, 0, 0, 1);
        due("10: quadrics", x.cross(q, q, q, q), BAD);

        x = Check.begun(3, 11);
        a = Check.plane(x, 1, 0, 2, 0);
        b = Check.plane(x, 0, 1, 0, 3);
        c = Check.plane(x, 1, 1, 2, 3);
        d = Check.plane(x, 1, 4, 2, 12);
        due("10: planes", x.cross(a, b, c, d), 3);
        due("10: lines of space", x.cross(x.meet(a, b), x.meet(a, b), 4, 4), BAD);
        due("10: points of space", x.cross(x.dual(a), x.dual(b), x.dual(c), x.dual(d)), 3);
    }

    private static void promise11() {
        ProjectiveRows x = Check.begun(2, 7);
        int a = Check.point(x, 1, 2, 0);
        int b = Check.point(x, 0, 0, 1);
        int c = Check.point(x, 1, 2, 1);
        due("11: 0", x.fourth(a, b, c, 0), b);
        due("11: 1", x.fourth(a, b, c, 1), c);
        due("11: p", x.fourth(a, b, c, 7), a);
        int d = x.fourth(a, b, c, 5);
        Check.row(x, "11: 5", d, POINT, 1, 2, 3);
        due("11: back", x.cross(a, b, c, d), 5);
        due("11: p + 1", x.fourth(a, b, c, 8), BAD);
        due("11: -1", x.fourth(a, b, c, -1), BAD);
        due("11: greatest", x.fourth(a, b, c, Long.MAX_VALUE), BAD);
        due("11: 2^32", x.fourth(a, b, c, 1L << 32), BAD);
        due("11: a is b", x.fourth(a, a, c, 2), NONE);
        due("11: b is c", x.fourth(a, b, b, 2), NONE);
        due("11: a is c", x.fourth(c, b, c, 2), NONE);
        int e = Check.point(x, 1, 1, 1);
        due("11: rank 3", x.fourth(a, b, e, 2), NONE);
        due("11: BAD goes first", x.fourth(a, a, c, 8), BAD);
        int u = x.dual(a);
        due("11: a line among them", x.fourth(a, b, u, 2), BAD);
        due("11: lines", x.fourth(u, x.dual(b), x.dual(c), 5), x.dual(d));
        due("11: no object", x.fourth(a, b, -1, 2), BAD);

        x = Check.begun(3, 5);
        a = Check.plane(x, 1, 0, 0, 0);
        b = Check.plane(x, 0, 0, 0, 1);
        c = Check.plane(x, 1, 0, 0, 2);
        d = x.fourth(a, b, c, 4);
        Check.row(x, "11: plane", d, PLANE, 1, 0, 0, 3);
        u = x.meet(a, b);
        due("11: lines of space", x.fourth(u, u, u, 1), BAD);
    }

    private static void promise12() {
        ProjectiveRows x = Check.begun(2, 7);
        int a = Check.point(x, 1, 2, 0);
        int u = Check.line(x, 1, 2, 0);
        due("12: a line", x.pair(a, u), BAD);
        due("12: a line first", x.pair(u, a), BAD);
        due("12: no object", x.pair(a, 2), BAD);
        for (int k = 1; k <= 4; k++) {
            due("12: pair " + k, x.pair(a, a), k);
            due("12: told", x.told(4), k);
        }
        due("12: n + 2", x.pair(a, a), FULL);
        due("12: BAD goes first", x.pair(a, u), BAD);
        due("12: still", x.told(4), 4);
        x = Check.begun(3, 7);
        a = Check.point(x, 1, 2, 0, 1);
        for (int k = 1; k <= 5; k++) {
            due("12: pair " + k, x.pair(a, a), k);
        }
        due("12: n + 2 in space", x.pair(a, a), FULL);
    }

    private static void promise13() {
        ProjectiveRows x = Check.begun(2, 7);
        int[] e = {Check.point(x, 1, 0, 0), Check.point(x, 0, 1, 0), Check.point(x, 0, 0, 1),
            Check.point(x, 1, 1, 1), Check.point(x, 1, 1, 0)};
        due("13: no pair", x.map(), NONE);
        pairs(x, e, 0, 1, 2, 3, 1, 2, 0);
        due("13: three pairs", x.map(), NONE);
        due("13: they stay", x.told(4), 3);
        due("13: a fourth", x.pair(e[3], e[4]), 4);
        due("13: three second ones on a line", x.map(), NONE);
        due("13: they stay", x.told(4), 4);
        x.begin(2, 7);
        e = new int[] {Check.point(x, 1, 0, 0), Check.point(x, 0, 1, 0), Check.point(x, 0, 0, 1),
            Check.point(x, 1, 1, 1), Check.point(x, 1, 2, 3)};
        pairs(x, e, 0, 1, 2, 3, 1, 2, 0, 4);
        int m = x.map();
        // e0 to e1, e1 to e2, e2 to e0; the sum to (1, 2, 3).
        Check.row(x, "13: the map", m, MAP, 0, 0, 1, 2, 0, 0, 0, 3, 0);
        due("13: no pair is left", x.told(4), 0);
        pairs(x, e, 0, 1, 2, 3, 1, 2, 0, 4);
        due("13: the same once more", x.map(), m);
        pairs(x, e, 0, 1, 0, 3, 0, 1, 2, 3);
        due("13: the same point twice among the first", x.map(), NONE);

        x = Check.begun(3, 5);
        e = new int[] {Check.point(x, 1, 0, 0, 0), Check.point(x, 0, 1, 0, 0),
            Check.point(x, 0, 0, 1, 0), Check.point(x, 0, 0, 0, 1), Check.point(x, 1, 1, 1, 1),
            Check.point(x, 1, 2, 3, 4), Check.point(x, 1, 1, 1, 0)};
        pairs(x, e, 0, 1, 2, 3, 4, 3, 2, 1, 0, 5);
        m = x.map();
        Check.row(x, "13: in space", m, MAP, 0, 0, 0, 1, 0, 0, 2, 0, 0, 3, 0, 0, 4, 0, 0, 0);
        pairs(x, e, 0, 1, 2, 3, 6, 0, 1, 2, 3, 4);
        due("13: four first ones on a plane", x.map(), NONE);
        due("13: they stay", x.told(4), 5);
    }

    /** The first half of which are the first points, the other half the second ones. */
    private static void pairs(ProjectiveRows x, int[] e, int... which) {
        int half = which.length / 2;
        for (int k = 0; k < half; k++) {
            due("pair", x.pair(e[which[k]], e[which[half + k]]), k + 1);
        }
    }

    private static void promise14() {
        ProjectiveRows x = Check.begun(2, 7);
        int m = Check.make(x, MAP, 1, 1, 0, 0, 1, 0, 0, 0, 2);
        int a = Check.point(x, 1, 2, 3);
        int b = x.apply(m, a);
        Check.row(x, "14: point", b, POINT, 1, 3, 2);
        int u = Check.line(x, 1, 1, 6);
        due("14: a on u", x.on(a, u), 1);
        int v = x.apply(m, u);
        // N is 1 -1 0, 0 1 0, 0 0 1/2; u N is 1, 0, 3.
        Check.row(x, "14: line", v, LINE, 1, 0, 3);
        due("14: still on", x.on(b, v), 1);
        int q = Check.make(x, QUADRIC, 1, 0, 0, 0, 1, 0, 0, 0, 1);
        int r = x.apply(m, q);
        Check.row(x, "14: quadric", r, QUADRIC, 1, 6, 0, 6, 2, 0, 0, 0, 2);
        due("14: on both", x.on(a, q) * 2 + x.on(b, r), 3);
        int h = Check.make(x, MAP, 0, 0, 1, 1, 0, 0, 0, 1, 0);
        int k = x.apply(m, h);
        Check.row(x, "14: map", k, MAP, 1, 6, 4, 1, 6, 0, 0, 2, 0);
        due("14: a map of itself", x.apply(m, m), m);
        due("14: no map", x.apply(a, a), BAD);
        due("14: no object", x.apply(m, 60), BAD);
        due("14: no object", x.apply(-1, a), BAD);

        x = Check.begun(3, 5);
        m = Check.make(x, MAP, 1, 1, 0, 0, 0, 1, 2, 0, 0, 0, 1, 3, 4, 0, 0, 1);
        a = Check.point(x, 1, 2, 3, 4);
        b = Check.point(x, 0, 1, 1, 0);
        int e = Check.plane(x, 1, 1, 4, 1);
        u = x.join(a, b);
        due("14: both on a plane", x.on(a, e) * 2 + x.on(b, e), 1);
        due("14: line", x.apply(m, u), x.join(x.apply(m, a), x.apply(m, b)));
        int f = x.apply(m, e);
        due("14: b is on the plane's image", x.on(x.apply(m, b), f), 1);
        due("14: a is not", x.on(x.apply(m, a), f), 0);
        due("14: inverse", x.apply(x.inverse(m), f), e);
    }

    private static void promises15And16() {
        ProjectiveRows x = Check.begun(2, 7);
        int g = Check.make(x, MAP, 1, 1, 0, 0, 1, 0, 0, 0, 2);
        int h = Check.make(x, MAP, 0, 0, 1, 1, 0, 0, 0, 1, 0);
        int a = Check.point(x, 1, 2, 3);
        int gh = x.compose(g, h);
        Check.row(x, "15: h first", gh, MAP, 1, 0, 1, 1, 0, 0, 0, 2, 0);
        Check.row(x, "15: g first", x.compose(h, g), MAP, 0, 0, 1, 4, 4, 0, 0, 4, 0);
        due("15: of a point", x.apply(gh, a), x.apply(g, x.apply(h, a)));
        due("15: a point", x.compose(g, a), BAD);
        due("15: a point first", x.compose(a, g), BAD);
        due("15: no object", x.compose(g, 50), BAD);
        int back = x.inverse(g);
        Check.row(x, "16: inverse", back, MAP, 1, 6, 0, 0, 1, 0, 0, 0, 4);
        due("16: and back", x.inverse(back), g);
        int one = Check.make(x, MAP, 1, 0, 0, 0, 1, 0, 0, 0, 1);
        due("16: both", x.compose(g, back), one);
        due("16: of one", x.inverse(one), one);
        due("16: a point", x.inverse(a), BAD);
        due("16: no object", x.inverse(-1), BAD);
        x = Check.begun(3, GREATEST);
        g = Check.make(x, MAP, 1, 2, 3, 4, 0, 1, 7, -1, 5, 0, 1, 0, -2, 3, 0, 1);
        one = Check.make(x, MAP, 1, 0, 0, 0, 0, 1, 0, 0, 0, 0, 1, 0, 0, 0, 0, 1);
        due("16: in space", x.compose(x.inverse(g), g), one);
    }

    private static void promise17() {
        ProjectiveRows x = Check.begun(2, 7);
        due("17: one", x.order(Check.make(x, MAP, 3, 0, 0, 0, 3, 0, 0, 0, 3)), 1);
        due("17: two", x.order(Check.make(x, MAP, 1, 0, 0, 0, 6, 0, 0, 0, 1)), 2);
        due("17: three", x.order(Check.make(x, MAP, 0, 0, 5, 1, 0, 0, 0, 2, 0)), 3);
        due("17: p", x.order(Check.make(x, MAP, 1, 1, 0, 0, 1, 0, 0, 0, 1)), 7);
        due("17: six and seven", x.order(Check.make(x, MAP, 1, 1, 0, 0, 1, 0, 0, 0, 3)), 42);
        due("17: e0 alone moves", x.order(Check.make(x, MAP, 1, 0, 0, 3, 1, 0, 4, 0, 1)), 7);
        due("17: a point", x.order(Check.point(x, 1, 0, 0)), BAD);
        due("17: no object", x.order(60), BAD);
        x = Check.begun(2, 997);
        due("17: 997", x.order(Check.make(x, MAP, 1, 1, 0, 0, 1, 0, 0, 0, 1)), 997);
        due("17: 7 is a generator", x.order(Check.make(x, MAP, 1, 0, 0, 0, 1, 0, 0, 0, 7)), 996);
        due("17: not within 1000", x.order(Check.make(x, MAP, 1, 1, 0, 0, 1, 0, 0, 0, -1)), NONE);
        x = Check.begun(2, 1009);
        due("17: 1009", x.order(Check.make(x, MAP, 1, 1, 0, 0, 1, 0, 0, 0, 1)), NONE);
        due("17: 11 makes 1008", x.order(Check.make(x, MAP, 1, 0, 0, 0, 1, 0, 0, 0, 11)), NONE);
        due("17: 121 makes 504", x.order(Check.make(x, MAP, 1, 0, 0, 0, 1, 0, 0, 0, 121)), 504);
        x = Check.begun(2, 3001);
        // 14 is a generator modulo 3001; its third power has the order 1000.
        due("17: 1000", x.order(Check.make(x, MAP, 1, 0, 0, 0, 1, 0, 0, 0, 14 * 14 * 14)), 1000);
        x = Check.begun(3, 5);
        due("17: in space", x.order(Check.make(x, MAP,
            1, 1, 0, 0, 0, 1, 0, 0, 0, 0, 1, 0, 0, 0, 0, 2)), 20);
        due("17: a turn", x.order(Check.make(x, MAP,
            0, 0, 0, 2, 1, 0, 0, 0, 0, 1, 0, 0, 0, 0, 1, 0)), 4);
    }

    private static void promises18And19() {
        for (int n = 2; n <= 3; n++) {
            ProjectiveRows x = Check.begun(n, 7);
            int a = Check.point(x, 1, 2, 3, 4);
            int u = Check.make(x, n - 1, 1, 2, 3, 4);
            due("19: nothing", x.forget(), 0);
            due("18: no point", x.gather(u), BAD);
            due("18: no object", x.gather(2), BAD);
            due("18: no object", x.gather(-1), BAD);
            for (int k = 1; k <= 9; k++) {
                due("18: gathered " + k, x.gather(a), k);
                due("18: told", x.told(3), k);
            }
            due("18: nine", x.gather(a), FULL);
            due("18: BAD goes first", x.gather(u), BAD);
            due("19: nine were", x.forget(), 9);
            due("19: told", x.told(3), 0);
            due("19: none now", x.forget(), 0);
            due("18: again", x.gather(a), 1);
        }
    }

    private static void promise20() {
        ProjectiveRows x = Check.begun(2, 13);
        due("20: nothing is gathered", x.quadric(), NONE);
        // x0 x2 = x1 x1
        for (int t = 0; t < 4; t++) {
            x.gather(Check.point(x, 1, t, t * t));
        }
        due("20: four", x.quadric(), NONE);
        x.gather(0);
        due("20: the same again", x.quadric(), NONE);
        x.gather(Check.point(x, 0, 0, 1));
        int q = x.quadric();
        Check.row(x, "20: quadric", q, QUADRIC, 0, 0, 1, 0, 11, 0, 1, 0, 0);
        x.gather(Check.point(x, 1, 5, 25));
        due("20: a seventh on it", x.quadric(), q);
        due("20: all stay gathered", x.told(3), 7);
        x.gather(Check.point(x, 1, 1, 2));
        due("20: an eighth that is not", x.quadric(), NONE);
        x.forget();
        for (int t = 0; t < 4; t++) {
            x.gather(Check.point(x, 1, t, 0));
        }
        x.gather(Check.point(x, 1, 0, 1));
        due("20: four on a line, one elsewhere", x.quadric(), NONE);
        x.gather(Check.point(x, 1, 0, 2));
        Check.row(x, "20: two lines", x.quadric(), QUADRIC, 0, 0, 0, 0, 0, 1, 0, 1, 0);

        x.forget();
        for (int t = 0; t < 4; t++) {
            x.gather(Check.point(x, 1, t, -1 - t));
        }
        x.gather(Check.point(x, 1, 0, 0));
        x.gather(Check.point(x, 1, 1, 1));
        // (x0 + x1 + x2) (x1 - x2)
        Check.row(x, "20: two others", x.quadric(), QUADRIC, 0, 1, 12, 1, 2, 0, 12, 0, 11);
        x.forget();
        long[][] circle = {{1, 1, 0}, {1, 12, 0}, {1, 0, 1}, {1, 0, 12}, {1, 2, 6}};
        for (long[] row : circle) {
            x.gather(Check.point(x, row));
        }
        Check.row(x, "20: a circle", x.quadric(), QUADRIC, 1, 0, 0, 0, 12, 0, 0, 0, 12);

        x = Check.begun(3, 11);
        // x0 x3 = x1 x2
        for (int s = 0; s < 3; s++) {
            for (int t = 0; t < 3; t++) {
                due("20: not yet", x.quadric(), NONE);
                x.gather(Check.point(x, 1, s, t, s * t));
            }
        }
        Check.row(x, "20: in space", x.quadric(), QUADRIC,
            0, 0, 0, 1, 0, 0, 10, 0, 0, 10, 0, 0, 1, 0, 0, 0);
    }

    private static void promise21() {
        ProjectiveRows x = Check.begun(2, 7);
        due("21: 3", x.rank(Check.make(x, QUADRIC, 0, 1, 0, 1, 0, 0, 0, 0, 1)), 3);
        due("21: 2", x.rank(Check.make(x, QUADRIC, 0, 1, 0, 1, 0, 0, 0, 0, 0)), 2);
        due("21: 1", x.rank(Check.make(x, QUADRIC, 1, 2, 3, 2, 4, 6, 3, 6, 9)), 1);
        due("21: a map", x.rank(Check.make(x, MAP, 1, 0, 0, 0, 1, 0, 0, 0, 1)), BAD);
        due("21: no object", x.rank(4), BAD);
        x = Check.begun(3, 5);
        due("21: 4", x.rank(Check.make(x, QUADRIC,
            1, 0, 0, 0, 0, 1, 0, 0, 0, 0, 1, 0, 0, 0, 0, 1)), 4);
        due("21: 3", x.rank(Check.make(x, QUADRIC,
            1, 0, 0, 0, 0, 1, 0, 0, 0, 0, 1, 0, 0, 0, 0, 0)), 3);
        due("21: 2", x.rank(Check.make(x, QUADRIC,
            0, 0, 0, 1, 0, 0, 0, 0, 0, 0, 0, 0, 1, 0, 0, 0)), 2);
    }

    private static void promise22() {
        ProjectiveRows x = Check.begun(2, 7);
        int q = Check.make(x, QUADRIC, 1, 2, 0, 2, 0, 0, 0, 0, 3);
        int a = Check.point(x, 1, 1, 1);
        int u = x.polar(q, a);
        Check.row(x, "22: the line", u, LINE, 1, 3, 1);
        due("22: and back", x.polar(q, u), a);
        int r = Check.make(x, QUADRIC, 1, 0, 0, 0, 2, 0, 0, 0, 0);
        due("22: Q x is 0", x.polar(r, Check.point(x, 0, 0, 1)), NONE);
        Check.row(x, "22: rank 2 has a polar", x.polar(r, a), LINE, 1, 2, 0);
        due("22: rank 2, of a line", x.polar(r, u), NONE);
        due("22: of a quadric", x.polar(q, r), BAD);
        due("22: no quadric", x.polar(a, a), BAD);
        due("22: no object", x.polar(q, 60), BAD);
        due("22: no object", x.polar(-1, a), BAD);

        x = Check.begun(3, 5);
        q = Check.make(x, QUADRIC, 1, 0, 0, 0, 0, 2, 0, 0, 0, 0, 0, 1, 0, 0, 1, 0);
        a = Check.point(x, 1, 2, 3, 4);
        u = x.polar(q, a);
        Check.row(x, "22: the plane", u, PLANE, 1, 4, 4, 3);
        due("22: and back", x.polar(q, u), a);
        int line = x.join(a, Check.point(x, 1, 0, 0, 0));
        due("22: of a line of space", x.polar(q, line), BAD);
        r = Check.make(x, QUADRIC, 1, 0, 0, 0, 0, 2, 0, 0, 0, 0, 0, 0, 0, 0, 0, 1);
        due("22: of a plane, rank 3", x.polar(r, u), NONE);
        due("22: the point in its middle", x.polar(r, Check.point(x, 0, 0, 1, 0)), NONE);
    }

    private static void promises23And24() {
        ProjectiveRows x = Check.begun(2, 7);
        int q = Check.make(x, QUADRIC, 0, 0, 1, 0, 5, 0, 1, 0, 0);
        // x0 x2 = x1 x1; on x0 = x2 the points (1, 1, 1) and (1, 6, 1).
        int u = Check.line(x, 1, 0, 6);
        due("23: two", x.touches(q, u), 2);
        Check.row(x, "24: t = 1", x.common(q, u, 0), POINT, 1, 1, 1);
        Check.row(x, "24: t = 6", x.common(q, u, 1), POINT, 1, 6, 1);
        due("24: no third", x.common(q, u, 2), NONE);
        due("24: greatest", x.common(q, u, GREATEST), NONE);
        due("24: below 0", x.common(q, u, -1), BAD);
        due("24: least", x.common(q, u, Integer.MIN_VALUE), BAD);
        int v = Check.line(x, 0, 0, 1);
        due("23: touching", x.touches(q, v), 1);
        Check.row(x, "24: there", x.common(q, v, 0), POINT, 1, 0, 0);
        due("24: no second", x.common(q, v, 1), NONE);
        int w = Check.line(x, 1, 0, 0);
        due("23: touching at the last one", x.touches(q, w), 1);
        Check.row(x, "24: the second of the base", x.common(q, w, 0), POINT, 0, 0, 1);
        int z = Check.line(x, 0, 1, 0);
        due("23: two, one is the last", x.touches(q, z), 2);
        Check.row(x, "24: first", x.common(q, z, 0), POINT, 1, 0, 0);
        Check.row(x, "24: last", x.common(q, z, 1), POINT, 0, 0, 1);
        int y = Check.line(x, 3, 0, 6);
        due("23: 3 is no square", x.touches(q, y), 0);
        due("24: none", x.common(q, y, 0), NONE);
        int s = Check.line(x, 1, -4, 3);
        // 1 - 4 t + 3 t t is 0 at 1 and at a third, which is 5.
        due("23: two at any places", x.touches(q, s), 2);
        Check.row(x, "24: 1", x.common(q, s, 0), POINT, 1, 1, 1);
        Check.row(x, "24: 5", x.common(q, s, 1), POINT, 1, 5, 4);
        int last = Check.line(x, 3, 1, 0);
        due("23: one at t, and the last", x.touches(q, last), 2);
        Check.row(x, "24: at t", x.common(q, last, 0), POINT, 1, 4, 2);
        Check.row(x, "24: the last", x.common(q, last, 1), POINT, 0, 0, 1);
        int pair = Check.make(x, QUADRIC, 0, 0, 0, 0, 0, 1, 0, 1, 0);
        due("23: the line is on the quadric", x.touches(pair, z), 8);
        Check.row(x, "24: t = 0", x.common(pair, z, 0), POINT, 1, 0, 0);
        Check.row(x, "24: t = 3", x.common(pair, z, 3), POINT, 1, 0, 3);
        Check.row(x, "24: t = p - 1", x.common(pair, z, 6), POINT, 1, 0, 6);
        Check.row(x, "24: the last", x.common(pair, z, 7), POINT, 0, 0, 1);
        due("24: p + 1", x.common(pair, z, 8), NONE);
        due("23: a quadric for a line", x.touches(q, q), BAD);
        due("23: no quadric", x.touches(u, u), BAD);
        due("23: no object", x.touches(q, 60), BAD);
        due("24: no quadric", x.common(u, u, 0), BAD);
        due("24: no object", x.common(q, -1, 0), BAD);
        inSpace23And24();
    }

    private static void inSpace23And24() {
        ProjectiveRows x = Check.begun(3, 5);
        int q = Check.make(x, QUADRIC, 0, 0, 0, 1, 0, 0, 4, 0, 0, 4, 0, 0, 1, 0, 0, 0);
        int u = x.join(Check.point(x, 1, 2, 0, 0), Check.point(x, 0, 0, 1, 2));
        due("23: a line of the quadric", x.touches(q, u), 6);
        Check.row(x, "24: k = 4", x.common(q, u, 4), POINT, 1, 2, 4, 3);
        Check.row(x, "24: k = 5", x.common(q, u, 5), POINT, 0, 0, 1, 2);
        due("24: k = 6", x.common(q, u, 6), NONE);
        int v = x.join(Check.point(x, 1, 0, 0, 1), Check.point(x, 0, 1, 1, 0));
        due("23: t t = 1", x.touches(q, v), 2);
        Check.row(x, "24: 1", x.common(q, v, 0), POINT, 1, 1, 1, 1);
        Check.row(x, "24: 4", x.common(q, v, 1), POINT, 1, 4, 4, 1);
        int w = x.join(Check.point(x, 1, 0, 0, 2), Check.point(x, 0, 1, 1, 0));
        due("23: t t = 2", x.touches(q, w), 0);
        due("23: a plane", x.touches(q, Check.plane(x, 1, 0, 0, 0)), BAD);
    }

    private static void promises23And24GreatestPrime() {
        ProjectiveRows x = Check.begun(2, GREATEST);
        int pair = Check.make(x, QUADRIC, 0, 0, 0, 0, 0, 1, 0, 1, 0);
        int z = Check.line(x, 0, 1, 0);
        Check.due("23: p + 1", x.touches(pair, z), 2147483648L);
        Check.row(x, "24: p", x.common(pair, z, GREATEST), POINT, 0, 0, 1);
        Check.row(x, "24: p - 1", x.common(pair, z, GREATEST - 1), POINT, 1, 0, GREATEST - 1);
        int q = Check.make(x, QUADRIC, 0, 0, 1, 0, -2, 0, 1, 0, 0);
        int u = Check.line(x, 2, 0, -1);
        due("23: t t = 2", x.touches(q, u), 2);
        Check.row(x, "24: lesser", x.common(q, u, 0), POINT, 1, 65536, 2);
        Check.row(x, "24: greater", x.common(q, u, 1), POINT, 1, GREATEST - 65536, 2);
    }

    private static void promise25() {
        int[] small = {3, 5, 7, 11, 13, 17, 41, 97, 193, 257};
        for (int p : small) {
            ProjectiveRows x = Check.begun(2, p);
            for (long v = -p; v <= 2L * p; v++) {
                // What is answered behind the 512th call of one object is free.
                x = v == 0 || v == p ? Check.begun(2, p) : x;
                int want = NONE;
                for (int r = p - 1; r >= 0; r--) {
                    want = Math.floorMod((long) r * r - v, (long) p) == 0 ? r : want;
                }
                due("25: root(" + v + ") modulo " + p, x.root(v), want);
            }
        }
        int[] great = {65537, 998244353, 469762049, 2013265921, 1811939329, 2147483629, GREATEST};
        for (int p : great) {
            ProjectiveRows x = Check.begun(3, p);
            BigInteger prime = BigInteger.valueOf(p);
            BigInteger half = BigInteger.valueOf((p - 1) / 2);
            long v = 2;
            for (int k = 0; k < 200; k++) {
                v = v * 6364136223846793005L + 1442695040888963407L;
                BigInteger number = BigInteger.valueOf(v).mod(prime);
                boolean isSquare = number.modPow(half, prime).bitLength() <= 1;
                long root = x.root(v);
                due("25: there is one", root >= 0 ? 1 : 0, isSquare ? 1 : 0);
                if (isSquare) {
                    Check.due("25: the lesser", root <= p / 2);
                    due("25: squared", root * root % p, number.longValue());
                }
            }
            due("25: (p - 1) squared", x.root((long) (p - 1) * (p - 1)), 1);
            due("25: p", x.root(p), 0);
            due("25: (p / 2) squared", x.root((long) (p / 2) * (p / 2)), p / 2);
        }
    }

    private static void promise26() {
        ProjectiveRows x = Check.begun(2, 7);
        int a = Check.point(x, 1, 2, 3);
        int u = x.dual(a);
        Check.row(x, "26: line", u, LINE, 1, 2, 3);
        due("26: point", x.dual(u), a);
        int m = Check.make(x, MAP, 1, 1, 0, 0, 1, 0, 0, 0, 2);
        Check.row(x, "26: map", x.dual(m), MAP, 1, 0, 0, 6, 1, 0, 0, 0, 4);
        int q = Check.make(x, QUADRIC, 0, 1, 0, 1, 0, 0, 0, 0, 2);
        Check.row(x, "26: quadric", x.dual(q), QUADRIC, 0, 1, 0, 1, 0, 0, 0, 0, 4);
        due("26: rank 2", x.dual(Check.make(x, QUADRIC, 0, 1, 0, 1, 0, 0, 0, 0, 0)), NONE);
        due("26: no object", x.dual(60), BAD);
        due("26: no object", x.dual(-1), BAD);

        x = Check.begun(3, 5);
        a = Check.point(x, 1, 2, 3, 4);
        int e = x.dual(a);
        Check.row(x, "26: plane", e, PLANE, 1, 2, 3, 4);
        due("26: point", x.dual(e), a);
        int b = Check.point(x, 0, 1, 1, 0);
        u = x.join(a, b);
        int v = x.dual(u);
        due("26: line", v, x.meet(e, x.dual(b)));
        due("26: line and back", x.dual(v), u);
        int w = Check.line(x, 1, 2, 3, 0, 0, 0);
        Check.row(x, "26: turned over", x.dual(w), LINE, 0, 0, 0, 1, 1, 2);
        Check.row(x, "26: and back", x.dual(x.dual(w)), LINE, 1, 2, 3, 0, 0, 0);
        q = Check.make(x, QUADRIC, 1, 0, 0, 0, 0, 2, 0, 0, 0, 0, 3, 0, 0, 0, 0, 4);
        Check.row(x, "26: inverse", x.dual(q), QUADRIC,
            1, 0, 0, 0, 0, 3, 0, 0, 0, 0, 2, 0, 0, 0, 0, 4);
    }

    private static void promise27() {
        ProjectiveRows x = Check.begun(2, 7);
        int a = Check.point(x, 1, 0, 0);
        int u = Check.line(x, 1, 0, 0);
        int v = Check.line(x, 0, 1, 0);
        due("27: a point", x.ideal(a), BAD);
        due("27: no object", x.ideal(3), BAD);
        due("27: none yet", x.told(5), NONE);
        due("27: none was", x.ideal(u), NONE);
        due("27: u was", x.ideal(v), u);
        due("27: v was", x.ideal(v), v);
        due("27: refused", x.ideal(a), BAD);
        due("27: told", x.told(5), v);
        x = Check.begun(3, 7);
        u = Check.line(x, 1, 0, 0, 0, 0, 0);
        int e = Check.plane(x, 1, 0, 0, 0);
        due("27: a line of space", x.ideal(u), BAD);
        due("27: a plane", x.ideal(e), NONE);
        due("27: told", x.told(5), e);
    }

    private static void promise28InThePlane() {
        ProjectiveRows x = Check.begun(2, 7);
        int far = Check.line(x, 1, 0, 0);
        int u = Check.line(x, 2, 1, 3);
        int v = Check.line(x, 5, 1, 3);
        int w = Check.line(x, 5, 1, 4);
        int a = Check.point(x, 1, 1, 1);
        due("28: no ideal one", x.parallel(u, v), NONE);
        due("28: BAD goes first", x.parallel(u, a), BAD);
        x.ideal(far);
        due("28: parallel", x.parallel(u, v), 1);
        due("28: not", x.parallel(u, w), 0);
        due("28: the same", x.parallel(w, w), 1);
        due("28: one is ideal", x.parallel(w, far), NONE);
        due("28: one is ideal", x.parallel(far, w), NONE);
        due("28: both are", x.parallel(far, far), NONE);
        due("28: point", x.parallel(a, u), BAD);
        due("28: no object", x.parallel(u, 60), BAD);
        due("28: nothing is made", x.told(2), 5);
    }

    private static void promise28InSpace() {
        ProjectiveRows x = Check.begun(3, 7);
        int far = Check.plane(x, 1, 0, 0, 0);
        int e = Check.plane(x, 2, 1, 3, 4);
        int f = Check.plane(x, 5, 1, 3, 4);
        int g = Check.plane(x, 5, 1, 3, 5);
        int o = Check.point(x, 1, 0, 0, 0);
        int i = Check.point(x, 0, 1, 0, 0);
        int j = Check.point(x, 0, 0, 1, 0);
        int u = x.join(o, i);
        int v = x.join(Check.point(x, 1, 0, 0, 1), i);
        int w = x.join(Check.point(x, 1, 0, 0, 1), j);
        int z = x.join(o, j);
        due("28: no ideal one", x.parallel(e, f), NONE);
        x.ideal(far);
        due("28: planes", x.parallel(e, f), 1);
        due("28: planes that are not", x.parallel(e, g), 0);
        due("28: the same planes", x.parallel(g, g), 1);
        due("28: lines", x.parallel(u, v), 1);
        due("28: lines that do not meet", x.parallel(u, w), 0);
        due("28: lines that meet", x.parallel(u, z), 0);
        due("28: the same lines", x.parallel(u, u), 1);
        int below = Check.plane(x, 0, 0, 0, 1);
        due("28: a line on the plane", x.parallel(u, below), 1);
        due("28: a line beside the plane", x.parallel(v, below), 1);
        due("28: plane and line", x.parallel(below, w), 1);
        due("28: a line through the plane", x.parallel(u, e), 0);
        due("28: plane and line, not", x.parallel(g, v), 0);
        int onFar = x.join(i, j);
        due("28: a line on the ideal one", x.parallel(onFar, u), NONE);
        due("28: and a plane", x.parallel(e, onFar), NONE);
        due("28: and itself", x.parallel(onFar, onFar), NONE);
        due("28: the ideal one", x.parallel(far, e), NONE);
        due("28: the ideal one and a line", x.parallel(u, far), NONE);
        due("28: a point", x.parallel(o, u), BAD);
        due("28: a point", x.parallel(e, o), BAD);
    }

    private static void promise29() {
        ProjectiveRows x = Check.begun(2, 7);
        int a = Check.point(x, 1, 1, 2);
        int b = Check.point(x, 1, 3, 6);
        int far = Check.line(x, 1, 0, 0);
        due("29: no ideal one", x.middle(a, b), NONE);
        due("29: BAD goes first", x.middle(a, far), BAD);
        x.ideal(far);
        int m = x.middle(a, b);
        Check.row(x, "29: the middle", m, POINT, 1, 2, 4);
        due("29: the other way round", x.middle(b, a), m);
        due("29: the ratio", x.cross(a, b, x.meet(x.join(a, b), far), m), 6);
        due("29: the same", x.middle(a, a), NONE);
        int i = Check.point(x, 0, 1, 2);
        due("29: one is far", x.middle(a, i), NONE);
        due("29: the other is far", x.middle(i, a), NONE);
        due("29: no object", x.middle(a, 60), BAD);
        int other = Check.line(x, 1, 1, 0);
        x.ideal(other);
        // 1 + 3 = 4 times a, and 1 + 1 = 2 times b.
        Check.row(x, "29: by another", x.middle(a, b), POINT, 1, 4, 1);
        x = Check.begun(3, 5);
        a = Check.point(x, 1, 1, 2, 0);
        b = Check.point(x, 1, 3, 0, 1);
        x.ideal(Check.plane(x, 1, 0, 0, 0));
        Check.row(x, "29: in space", x.middle(a, b), POINT, 1, 2, 1, 3);
    }

    private static void gatherAll(ProjectiveRows x, long[][] points) {
        x.forget();
        for (long[] point : points) {
            x.gather(Check.point(x, point));
        }
    }

    private static void promise30Pappus() {
        ProjectiveRows x = Check.begun(2, 13);
        due("30: none are gathered", x.holds(0), NONE);
        due("30: another theorem", x.holds(3), BAD);
        due("30: another theorem", x.holds(-1), BAD);
        due("30: another theorem", x.holds(Integer.MAX_VALUE), BAD);
        long[][] six = {{1, 0, 0}, {1, 0, 1}, {1, 1, 0}, {1, 2, 1}, {1, 4, 0}, {1, 5, 1}};
        gatherAll(x, six);
        due("30: Pappus", x.holds(0), 1);
        due("30: and two lines are a quadric", x.holds(2), 1);
        due("30: but no two triangles", x.holds(1), NONE);
        x.gather(0);
        due("30: seven are not six", x.holds(0), NONE);
        long[][] off = {{1, 0, 0}, {1, 0, 1}, {1, 1, 0}, {1, 2, 1}, {1, 4, 0}, {1, 5, 2}};
        gatherAll(x, off);
        due("30: 1 3 5 are on no line", x.holds(0), NONE);
        long[][] offFirst = {{1, 0, 0}, {1, 0, 1}, {1, 1, 0}, {1, 2, 1}, {1, 4, 2}, {1, 5, 1}};
        gatherAll(x, offFirst);
        due("30: 0 2 4 are on no line", x.holds(0), NONE);
        long[][] five = {{1, 0, 0}, {1, 0, 1}, {1, 1, 0}, {1, 2, 1}, {1, 4, 0}};
        gatherAll(x, five);
        due("30: five", x.holds(0), NONE);
        long[][] oneLine = {{1, 0, 0}, {1, 1, 0}, {1, 2, 0}, {1, 3, 0}, {1, 4, 0}, {1, 5, 0}};
        gatherAll(x, oneLine);
        due("30: all LINES are the same", x.holds(0), NONE);
        long[][] twice = {{1, 0, 0}, {1, 0, 0}, {1, 1, 0}, {1, 2, 1}, {1, 4, 0}, {1, 4, 2}};
        gatherAll(x, twice);
        due("30: no LINE 0 1", x.holds(0), NONE);
        due("30: nothing is made but points", x.told(2) < 20 ? 1 : 0, 1);
        Check.due("30: in space", Check.begun(3, 13).holds(0), BAD);
        Check.due("30: in space", Check.begun(3, 13).holds(7), BAD);
    }

    private static void promise30Desargues() {
        ProjectiveRows x = Check.begun(2, 13);
        // The LINES 0 3, 1 4, 2 5 go through (1, 0, 0).
        long[][] six = {{1, 1, 0}, {1, 0, 1}, {1, 1, 1}, {1, 3, 0}, {1, 0, 4}, {1, 2, 2}};
        gatherAll(x, six);
        due("30: Desargues", x.holds(1), 1);
        due("30: no Pappus", x.holds(0), NONE);
        long[][] off = {{1, 1, 0}, {1, 0, 1}, {1, 1, 1}, {1, 3, 0}, {1, 0, 4}, {1, 2, 3}};
        gatherAll(x, off);
        due("30: 2 5 goes elsewhere", x.holds(1), NONE);
        long[][] same = {{1, 1, 0}, {1, 0, 1}, {1, 1, 1}, {1, 1, 0}, {1, 0, 4}, {1, 2, 2}};
        gatherAll(x, same);
        due("30: no LINE 0 3", x.holds(1), NONE);
        long[][] side = {{1, 1, 0}, {1, 2, 0}, {1, 1, 1}, {1, 3, 0}, {1, 4, 0}, {1, 2, 2}};
        gatherAll(x, side);
        due("30: 0 1 and 3 4 are the same LINE", x.holds(1), NONE);
        // A triangle 0 1 2 on a line: its sides are one LINE, three POINTS of which are met.
        long[][] thin = {{1, 1, 0}, {1, 0, 1}, {2, 1, 1}, {1, 3, 0}, {1, 0, 4}, {1, 2, 2}};
        gatherAll(x, thin);
        due("30: three POINTS of one LINE", x.holds(1), 1);
    }

    private static void promise30Pascal() {
        ProjectiveRows x = Check.begun(2, 13);
        long[][] six = {{1, 0, 0}, {1, 3, 9}, {1, 1, 1}, {1, 7, 49}, {0, 0, 1}, {1, 4, 16}};
        gatherAll(x, six);
        due("30: Pascal", x.holds(2), 1);
        due("30: no Pappus", x.holds(0), NONE);
        long[][] off = {{1, 0, 0}, {1, 3, 9}, {1, 1, 1}, {1, 7, 49}, {0, 0, 1}, {1, 4, 17}};
        gatherAll(x, off);
        due("30: no quadric", x.holds(2), NONE);
        long[][] again = {{1, 0, 0}, {1, 3, 9}, {1, 1, 1}, {1, 7, 49}, {1, 7, 49}, {1, 4, 16}};
        gatherAll(x, again);
        due("30: no LINE 3 4", x.holds(2), NONE);
        // 0 1 2 on one line, 3 4 5 on another: two of the POINTS are where both meet.
        long[][] two = {{1, 0, 0}, {1, 1, 0}, {1, 2, 0}, {1, 0, 1}, {1, 3, 1}, {1, 5, 1}};
        gatherAll(x, two);
        due("30: POINTS that are the same", x.holds(2), 1);
    }

    private static void promise31() {
        ProjectiveRows x = Check.begun(3, 11);
        int a = Check.point(x, 1, 2, 3, 4);
        int e = Check.plane(x, 1, 2, 3, 4);
        x.gather(a);
        x.gather(a);
        x.pair(a, a);
        x.ideal(e);
        int[] want = {3, 11, 2, 2, 1, e};
        for (int what = 0; what < want.length; what++) {
            due("31: told(" + what + ")", x.told(what), want[what]);
        }
        int[] outside = {Integer.MIN_VALUE, -1, 6, 7, Integer.MAX_VALUE};
        for (int what : outside) {
            due("31: told(" + what + ")", x.told(what), BAD);
        }
    }

    /** With 60 objects: what is there is answered, what is new is not made. */
    private static void full() {
        ProjectiveRows x = Check.begun(2, 10007);
        int[] e = {Check.point(x, 1, 0, 0), Check.point(x, 0, 1, 0), Check.point(x, 0, 0, 1),
            Check.point(x, 1, 1, 1), Check.point(x, 1, 2, 3), Check.point(x, 1, 1, 0)};
        int u = x.join(e[0], e[1]);
        int v = x.join(e[2], e[3]);
        int m = Check.make(x, MAP, 1, 1, 0, 0, 2, 0, 0, 0, 3);
        int q = Check.make(x, QUADRIC, 0, 0, 1, 0, 3, 0, 1, 0, 0);
        x.ideal(Check.line(x, 1, 1, 1));
        Check.fill(x, 60);
        due("full: make", Check.point(x, 1, 9, 9), FULL);
        due("full: make what is there", Check.point(x, 5, 5, 5), e[3]);
        due("full: make, NONE goes first", Check.point(x, 0, 0, 0), NONE);
        due("full: make, BAD goes first", x.make(2), BAD);
        due("full: join", x.join(e[0], e[4]), FULL);
        due("full: join what is there", x.join(e[1], e[5]), u);
        due("full: join the same", x.join(e[0], e[0]), NONE);
        due("full: meet", x.meet(u, v), e[5]);
        due("full: meet", x.meet(u, x.told(5)), FULL);
        due("full: fourth", x.fourth(e[0], e[1], e[5], 2), FULL);
        due("full: fourth that is there", x.fourth(e[0], e[1], e[5], 1), e[5]);
        due("full: apply", x.apply(m, u), u);
        due("full: apply", x.apply(m, e[4]), FULL);
        due("full: compose", x.compose(m, m), FULL);
        due("full: inverse", x.inverse(m), FULL);
        due("full: polar", x.polar(q, e[4]), FULL);
        due("full: common", x.common(q, u, 0), e[0]);
        due("full: common", x.common(q, v, 0), FULL);
        due("full: common that is there", x.common(q, v, 1), e[2]);
        due("full: common, NONE goes first", x.common(q, v, 2), NONE);
        due("full: dual", x.dual(e[4]), FULL);
        due("full: dual that is there", x.dual(u), e[2]);
        due("full: middle", x.middle(e[0], e[4]), FULL);
        pairs(x, e, 0, 1, 2, 3, 1, 2, 0, 4);
        due("full: map", x.map(), FULL);
        due("full: the pairs stay", x.told(4), 4);
        for (int k = 0; k < 5; k++) {
            x.gather(e[k]);
        }
        due("full: quadric", x.quadric(), FULL);
        due("full: objects", x.told(2), 60);
        due("full: gather goes on", x.gather(e[0]), 6);
    }

    private static void refusedChangesNothing() {
        ProjectiveRows x = Check.begun(2, 7);
        int a = Check.point(x, 1, 2, 3);
        int u = Check.line(x, 1, 2, 3);
        x.gather(a);
        x.pair(a, a);
        x.ideal(u);
        x.put(20, 1);
        x.make(7);
        x.join(a, u);
        x.meet(a, u);
        x.fourth(a, a, a, 1);
        x.pair(a, u);
        x.map();
        x.gather(u);
        x.quadric();
        x.ideal(a);
        x.holds(0);
        x.middle(a, a);
        int[] want = {2, 7, 2, 1, 1, u};
        for (int what = 0; what < want.length; what++) {
            due("refused: told(" + what + ")", x.told(what), want[what]);
        }
        due("refused: the hand is as it was", x.make(LINE), u);
    }
}
