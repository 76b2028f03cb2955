/** Promises 7 (withSlope) and 8 (bestSlope). */
public final class SlopeTest {
    private static final int[] BAD_P = {-1001, 1001, Integer.MIN_VALUE, Integer.MAX_VALUE};
    private static final int[] BAD_Q = {0, -1, 41, -40, Integer.MIN_VALUE, Integer.MAX_VALUE};

    public static void main(String[] args) {
        withoutPoints();
        onePoint();
        threePoints();
        edges();
        refused(new LeastDeviations());
        refused(Check.with(2, 0, 0, 1, 1, 3, 0));
        manyBestSlopes();
        oneColumn();
        Check.end();
    }

    private static void withoutPoints() {
        LeastDeviations o = new LeastDeviations();
        Check.same("withSlope(0, 1) without points", o.withSlope(0, 1), 0);
        Check.same("withSlope(-1000, 40) without points", o.withSlope(-1000, 40), 0);
        Check.same("bestSlope(0, 1) without points", o.bestSlope(0, 1), true);
        Check.same("bestSlope(1000, 40) without points", o.bestSlope(1000, 40), true);
    }

    private static void onePoint() {
        LeastDeviations o = Check.with(1, -20, 20);
        Check.same("withSlope(1000, 1) with one point", o.withSlope(1000, 1), 0);
        Check.same("bestSlope(-7, 3) with one point", o.bestSlope(-7, 3), true);
    }

    private static void threePoints() {
        // Over slope -1/2 the heights times 2 are 0, 3, 3.
        LeastDeviations o = Check.with(3, 0, 0, 1, 1, 3, 0);
        Check.same("withSlope(-1, 2)", o.withSlope(-1, 2), 3);
        Check.same("withSlope(-2, 4), not in lowest terms", o.withSlope(-2, 4), 6);
        Check.same("withSlope(-20, 40)", o.withSlope(-20, 40), 60);
        Check.same("withSlope(0, 1)", o.withSlope(0, 1), 2);
        Check.same("withSlope(0, 40)", o.withSlope(0, 40), 80);
        Check.same("withSlope(1, 2)", o.withSlope(1, 2), 5);
        Check.same("bestSlope(-1, 2)", o.bestSlope(-1, 2), true);
        Check.same("bestSlope(-20, 40)", o.bestSlope(-20, 40), true);
        Check.same("bestSlope(-19, 40)", o.bestSlope(-19, 40), false);
        Check.same("bestSlope(-21, 40)", o.bestSlope(-21, 40), false);
        Check.same("bestSlope(1, 2)", o.bestSlope(1, 2), false);
        Check.same("bestSlope(0, 1)", o.bestSlope(0, 1), false);
    }

    private static void edges() {
        // Heights are 40 * 20 + 1000 * 20 and its negative.
        LeastDeviations o = Check.with(2, -20, 20, -20, 20, -20, 20, -20, 20, 20, -20, 20, -20, 20, -20, 20, -20);
        Check.same("withSlope(1000, 40)", o.withSlope(1000, 40), 2 * 4 * 41600);
        Check.same("withSlope(-1000, 1)", o.withSlope(-1000, 1), 2 * 4 * 39960);
        Check.same("withSlope(-40, 40)", o.withSlope(-40, 40), 0);
        Check.same("bestSlope(1000, 40)", o.bestSlope(1000, 40), false);
        Check.same("bestSlope(-1, 1)", o.bestSlope(-1, 1), true);
    }

    private static void refused(LeastDeviations o) {
        for (int p : BAD_P) {
            Check.same("withSlope(" + p + ", 1)", o.withSlope(p, 1), LeastDeviations.BAD);
            Check.same("bestSlope(" + p + ", 1)", o.bestSlope(p, 1), false);
        }
        for (int q : BAD_Q) {
            Check.same("withSlope(0, " + q + ")", o.withSlope(0, q), LeastDeviations.BAD);
            Check.same("bestSlope(0, " + q + ")", o.bestSlope(0, q), false);
            Check.same("withSlope(1001, " + q + ")", o.withSlope(1001, q), LeastDeviations.BAD);
            Check.same("bestSlope(1001, " + q + ")", o.bestSlope(1001, q), false);
        }
    }

    private static void manyBestSlopes() {
        // Two columns of height 2: with lean 2 every slope from -2 to 2 between them costs the same.
        LeastDeviations o = Check.with(2, 0, 0, 0, 2, 1, 0, 1, 2);
        for (int p = -90; p <= 90; p++) {
            Check.same("bestSlope(" + p + ", 40)", o.bestSlope(p, 40), p >= -80 && p <= 80);
        }
    }

    private static void oneColumn() {
        LeastDeviations o = Check.with(3, 7, 1, 7, 5);
        Check.same("withSlope(3, 7) of a column", o.withSlope(3, 7), 28);
        Check.same("bestSlope(-1000, 1) of a column", o.bestSlope(-1000, 1), true);
        Check.same("bestSlope(1000, 40) of a column", o.bestSlope(1000, 40), true);
    }
}
