import java.util.function.Supplier;
import java.util.function.ToIntFunction;

/**
 * Tells by the public face alone which points and which lean an object has. To read one point the
 * others are dropped, so each reading is made on a new object with the same calls behind it.
 */
final class State {
    static final int[] NO_POINTS = {};
    static final int[] ONE_POINT = {20, -20};
    static final int[] THREE_POINTS = {-20, 7, 4, 20, 4, -3};
    static final int[] EIGHT_POINTS = {-20, -20, 20, 20, 0, 3, 0, 3, 7, -9, -20, 20, 13, 0, 20, -20};
    static final int[][] ALL = {NO_POINTS, ONE_POINT, THREE_POINTS, EIGHT_POINTS};

    private State() {
    }

    static int bit(boolean answer) {
        return answer ? 1 : 0;
    }

    /** The objects made have the lean k and the points x0, y0, x1, y1 and so on, and no others. */
    static void same(String after, Supplier<LeastDeviations> made, int k, int... coordinates) {
        int n = coordinates.length / 2;
        Check.same("points after " + after, made.get().points(), n);
        for (int i = 0; i < n; i++) {
            point(after, made.get(), n, i, k, coordinates[2 * i], coordinates[2 * i + 1]);
        }
        leanOf(after, made.get(), n, k);
    }

    /** The call answers as due and leaves the lean and the points as they were. */
    static void kept(String name, ToIntFunction<LeastDeviations> call, int due, int k, int... coordinates) {
        String where = name + " with lean " + k + " and " + coordinates.length / 2 + " points";
        same(where, () -> {
            LeastDeviations o = Check.with(k, coordinates);
            Check.same(where, call.applyAsInt(o), due);
            return o;
        }, k, coordinates);
    }

    /** The same on objects without points, with some, and with all eight, and with each lean. */
    static void keptAlways(String name, ToIntFunction<LeastDeviations> call, int due) {
        for (int[] coordinates : ALL) {
            for (int k = 1; k <= 3; k++) {
                kept(name, call, due, k, coordinates);
            }
        }
    }

    /** Beside a probe in the lowest corner, a slope of -1000 gives each place a cost of its own. */
    private static void point(String after, LeastDeviations o, int n, int i, int k, int x, int y) {
        for (int t = n - 1; t > i; t--) {
            o.drop(t);
        }
        for (int t = 0; t < i; t++) {
            o.drop(0);
        }
        Check.same("add of the probe after " + after, o.add(-20, -20), 2);
        Check.same("place of point " + i + " after " + after,
            o.withSlope(-1000, 1), Math.min(k, 4 - k) * (1000 * (x + 20) + y + 20));
    }

    private static void leanOf(String after, LeastDeviations o, int n, int k) {
        for (int t = n - 1; t >= 0; t--) {
            o.drop(t);
        }
        o.add(0, 0);
        o.add(0, 1);
        Check.same("lean after " + after, o.throughTop(0), k);
        Check.same("lean below the line after " + after, o.throughTop(1), 4 - k);
    }
}
