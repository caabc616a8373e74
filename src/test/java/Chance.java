import java.util.BitSet;
import java.util.List;

/** Numbers, and objects of a small world, that look like chance and are the same each time. */
final class Chance {
    private static final int POINT = Check.POINT;

    private final SmallWorld world;
    private long seed;

    Chance(SmallWorld world, long seed) {
        this.world = world;
        this.seed = seed;
    }

    /** A number below the bound, the same ones in each run. */
    int any(int bound) {
        seed = seed * 6364136223846793005L + 1442695040888963407L;
        return (int) ((seed >>> 33) % bound);
    }

    long[] row(int sort) {
        List<long[]> all = world.rows.get(sort);
        return all.get(any(all.size()));
    }

    /** A row that is, mostly, among what two others span. */
    long[] near(long[] x, long[] y, int sort) {
        int way = any(12);
        if (way == 0) {
            return row(sort);
        }
        if (way <= 2) {
            return way == 1 ? x : y;
        }
        long[] sum = world.plus(x, any(world.p), y);
        return world.isZero(sum) ? x : world.normal(sum);
    }

    long[] map() {
        long[] square = new long[world.width * world.width];
        do {
            boolean sparse = any(2) == 0;
            for (int i = 0; i < square.length; i++) {
                square[i] = sparse && any(3) != 0 ? 0 : any(world.p);
            }
        } while (world.rankOfSquare(square) != world.width);
        return square;
    }

    long[] quadric() {
        long[] square = new long[world.width * world.width];
        do {
            boolean sparse = any(2) == 0;
            for (int i = 0; i < world.width; i++) {
                for (int j = i; j < world.width; j++) {
                    long v = sparse && any(3) != 0 ? 0 : any(world.p);
                    square[i * world.width + j] = v;
                    square[j * world.width + i] = v;
                }
            }
        } while (world.isZero(square));
        return square;
    }

    /** Six points, mostly such that a theorem can be asked of them. */
    long[][] six(int theorem) {
        long[][] six = new long[6][];
        for (int i = 0; i < 6; i++) {
            six[i] = row(POINT);
        }
        if (theorem == 0) {
            six[4] = near(six[0], six[2], POINT);
            six[5] = near(six[1], six[3], POINT);
        } else if (theorem == 1) {
            long[] center = row(POINT);
            for (int i = 0; i < 3; i++) {
                six[i + 3] = near(center, six[i], POINT);
            }
        } else {
            long[] square = quadric();
            BitSet set = world.setOfQuadric(square);
            if (set.cardinality() > 0) {
                for (int i = 0; i < 6; i++) {
                    int place = set.nextSetBit(any(world.points.size()));
                    six[i] = world.points.get(place < 0 ? set.nextSetBit(0) : place);
                }
            }
        }
        return six;
    }
}
