/**
 * An object of ProjectiveRows that counts its calls: what is answered behind the 512th is free, so
 * no test may lean on it.
 */
final class Asked {
    static final int MOST_CALLS = 512;

    private final ProjectiveRows rows = new ProjectiveRows();
    private int calls;

    private ProjectiveRows next() {
        calls++;
        if (calls > MOST_CALLS) {
            throw new IllegalStateException("a test calls one object more than 512 times");
        }
        return rows;
    }

    /** How many calls more are promised. */
    int left() {
        return MOST_CALLS - calls;
    }

    /** Puts a row in hand. */
    void hold(long... row) {
        for (int i = 0; i < row.length; i++) {
            put(i, row[i]);
        }
    }

    /** Puts a row in hand and makes an object of it. */
    int row(int sort, long... row) {
        hold(row);
        return make(sort);
    }

    int begin(int n, int p) {
        return next().begin(n, p);
    }

    int put(int i, long v) {
        return next().put(i, v);
    }

    int make(int sort) {
        return next().make(sort);
    }

    int number(int a, int i) {
        return next().number(a, i);
    }

    int sort(int a) {
        return next().sort(a);
    }

    int join(int a, int b) {
        return next().join(a, b);
    }

    int meet(int a, int b) {
        return next().meet(a, b);
    }

    int on(int a, int b) {
        return next().on(a, b);
    }

    long cross(int a, int b, int c, int d) {
        return next().cross(a, b, c, d);
    }

    int fourth(int a, int b, int c, long v) {
        return next().fourth(a, b, c, v);
    }

    int pair(int a, int b) {
        return next().pair(a, b);
    }

    int map() {
        return next().map();
    }

    int apply(int m, int a) {
        return next().apply(m, a);
    }

    int compose(int a, int b) {
        return next().compose(a, b);
    }

    int inverse(int m) {
        return next().inverse(m);
    }

    int order(int m) {
        return next().order(m);
    }

    int gather(int a) {
        return next().gather(a);
    }

    int forget() {
        return next().forget();
    }

    int quadric() {
        return next().quadric();
    }

    int rank(int q) {
        return next().rank(q);
    }

    int polar(int q, int a) {
        return next().polar(q, a);
    }

    long touches(int q, int line) {
        return next().touches(q, line);
    }

    int common(int q, int line, int k) {
        return next().common(q, line, k);
    }

    int root(long v) {
        return next().root(v);
    }

    int dual(int a) {
        return next().dual(a);
    }

    int ideal(int a) {
        return next().ideal(a);
    }

    int parallel(int a, int b) {
        return next().parallel(a, b);
    }

    int middle(int a, int b) {
        return next().middle(a, b);
    }

    int holds(int theorem) {
        return next().holds(theorem);
    }

    int told(int what) {
        return next().told(what);
    }
}
