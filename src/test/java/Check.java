/** Counts answers that are not as due, and makes objects of rows written out. */
final class Check {
    static final int NONE = -1, BAD = -2, FULL = -3;
    static final int POINT = 0, LINE = 1, PLANE = 2, MAP = 3, QUADRIC = 4;

    private static int asked = 0;
    private static int wrong = 0;

    private Check() {
    }

    static void due(String what, long got, long want) {
        asked++;
        if (got != want) {
            wrong++;
            if (wrong <= 50) {
                System.out.println(what + " answered " + got + ", due is " + want);
            }
        }
    }

    static void due(String what, boolean got) {
        due(what, got ? 1 : 0, 1);
    }

    static ProjectiveRows begun(int n, int p) {
        ProjectiveRows x = new ProjectiveRows();
        due("begin(" + n + ", " + p + ")", x.begin(n, p), 1);
        return x;
    }

    static int make(ProjectiveRows x, int sort, long... row) {
        for (int i = 0; i < row.length; i++) {
            x.put(i, row[i]);
        }
        return x.make(sort);
    }

    static int point(ProjectiveRows x, long... row) {
        return make(x, POINT, row);
    }

    static int line(ProjectiveRows x, long... row) {
        return make(x, LINE, row);
    }

    static int plane(ProjectiveRows x, long... row) {
        return make(x, PLANE, row);
    }

    /** Asks for an object's sort and its whole row. */
    static void row(ProjectiveRows x, String what, int a, int sort, long... want) {
        due(what + ": sort", x.sort(a), sort);
        for (int i = 0; i < want.length; i++) {
            due(what + ": number " + i, x.number(a, i), want[i]);
        }
        due(what + ": no number more", x.number(a, want.length), BAD);
    }

    /** Puts points (1, t, t t) or (1, t, t t, t t t) until there are so many objects. */
    static void fill(ProjectiveRows x, int objects) {
        int n = x.told(0);
        for (long t = 100; x.told(2) < objects && t < 100000; t++) {
            if (n == 2) {
                point(x, 1, t, t * t);
            } else {
                point(x, 1, t, t * t, t * t * t);
            }
        }
        due("so many objects", x.told(2), objects);
    }

    static void end(String test) {
        System.out.println(test + ": " + asked + " answers, " + wrong + " not as due");
        if (wrong != 0) {
            System.exit(1);
        }
    }
}
