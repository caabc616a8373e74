import java.util.Map;
import java.util.TreeMap;

/** One object of the class and one PlainRows: each call is made on both, and must answer the same. */
final class Twins {
    private final Asked asked = new Asked();
    private final PlainRows plain = new PlainRows();
    private final String name;
    private final Map<String, Integer> answers;

    /** Counts the answers of each kind by call, "join NONE" and the like. */
    Twins(String name, Map<String, Integer> answers) {
        this.name = name;
        this.answers = answers;
    }

    static Map<String, Integer> noAnswers() {
        return new TreeMap<>();
    }

    /** How many calls more are promised. */
    int left() {
        return asked.left();
    }

    /** What may be looked at without a call. */
    PlainRows plain() {
        return plain;
    }

    private long due(String call, long got, long want) {
        Check.due(name + ", call " + (Asked.MOST_CALLS - left()) + ", " + call, got, want);
        String[] below = {"", " NONE", " BAD", " FULL"};
        String kind = below[want >= 0 ? 0 : (int) -want];
        answers.merge(call.substring(0, call.indexOf('(')) + kind, 1, Integer::sum);
        return want;
    }

    private static String text(String call, long... given) {
        StringBuilder text = new StringBuilder(call).append('(');
        for (int i = 0; i < given.length; i++) {
            text.append(i == 0 ? "" : ", ").append(given[i]);
        }
        return text.append(')').toString();
    }

    int begin(int n, int p) {
        return (int) due(text("begin", n, p), asked.begin(n, p), plain.begin(n, p));
    }

    int put(int i, long v) {
        return (int) due(text("put", i, v), asked.put(i, v), plain.put(i, v));
    }

    int make(int sort) {
        return (int) due(text("make", sort), asked.make(sort), plain.make(sort));
    }

    int number(int a, int i) {
        return (int) due(text("number", a, i), asked.number(a, i), plain.number(a, i));
    }

    int sort(int a) {
        return (int) due(text("sort", a), asked.sort(a), plain.sort(a));
    }

    int join(int a, int b) {
        return (int) due(text("join", a, b), asked.join(a, b), plain.join(a, b));
    }

    int meet(int a, int b) {
        return (int) due(text("meet", a, b), asked.meet(a, b), plain.meet(a, b));
    }

    int on(int a, int b) {
        return (int) due(text("on", a, b), asked.on(a, b), plain.on(a, b));
    }

    long cross(int a, int b, int c, int d) {
        return due(text("cross", a, b, c, d), asked.cross(a, b, c, d), plain.cross(a, b, c, d));
    }

    int fourth(int a, int b, int c, long v) {
        return (int) due(text("fourth", a, b, c, v),
            asked.fourth(a, b, c, v), plain.fourth(a, b, c, v));
    }

    int pair(int a, int b) {
        return (int) due(text("pair", a, b), asked.pair(a, b), plain.pair(a, b));
    }

    int map() {
        return (int) due(text("map"), asked.map(), plain.map());
    }

    int apply(int m, int a) {
        return (int) due(text("apply", m, a), asked.apply(m, a), plain.apply(m, a));
    }

    int compose(int a, int b) {
        return (int) due(text("compose", a, b), asked.compose(a, b), plain.compose(a, b));
    }

    int inverse(int m) {
        return (int) due(text("inverse", m), asked.inverse(m), plain.inverse(m));
    }

    int order(int m) {
        return (int) due(text("order", m), asked.order(m), plain.order(m));
    }

    int gather(int a) {
        return (int) due(text("gather", a), asked.gather(a), plain.gather(a));
    }

    int forget() {
        return (int) due(text("forget"), asked.forget(), plain.forget());
    }

    int quadric() {
        return (int) due(text("quadric"), asked.quadric(), plain.quadric());
    }

    int rank(int q) {
        return (int) due(text("rank", q), asked.rank(q), plain.rank(q));
    }

    int polar(int q, int a) {
        return (int) due(text("polar", q, a), asked.polar(q, a), plain.polar(q, a));
    }

    long touches(int q, int line) {
        return due(text("touches", q, line), asked.touches(q, line), plain.touches(q, line));
    }

    int common(int q, int line, int k) {
        return (int) due(text("common", q, line, k),
            asked.common(q, line, k), plain.common(q, line, k));
    }

    int root(long v) {
        return (int) due(text("root", v), asked.root(v), plain.root(v));
    }

    int dual(int a) {
        return (int) due(text("dual", a), asked.dual(a), plain.dual(a));
    }

    int ideal(int a) {
        return (int) due(text("ideal", a), asked.ideal(a), plain.ideal(a));
    }

    int parallel(int a, int b) {
        return (int) due(text("parallel", a, b), asked.parallel(a, b), plain.parallel(a, b));
    }

    int middle(int a, int b) {
        return (int) due(text("middle", a, b), asked.middle(a, b), plain.middle(a, b));
    }

    int holds(int theorem) {
        return (int) due(text("holds", theorem), asked.holds(theorem), plain.holds(theorem));
    }

    int told(int what) {
        return (int) due(text("told", what), asked.told(what), plain.told(what));
    }
}
