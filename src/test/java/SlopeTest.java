/** Promises 7 (withSlope) and 8 (bestSlope). */
public final class SlopeTest {
    private static final int[] BAD_P = {-1001, 1001, Integer.MIN_VALUE, Integer.MAX_VALUE};
    private static final int[] BAD_Q = {0, -1, 41, -40, Integer.MIN_VALUE, Integer.MAX_VALUE};

    public static void main(String[] args) {
        withoutPoints();
        emptied();
        onePoint();
        threePoints();
        edges();
        refused(new LeastDeviations());
        refused(Check.with(2, 0, 0, 1, 1, 3, 0));
        manyBestSlopes();
        oneColumn();
        notInLowestTerms();
        Check.end();
    }

    private static void withoutPoints() {
        LeastDeviations o = new LeastDeviations();
        Check.same("withSlope(0, 1) without points", o.withSlope(0, 1), 0);
        Check.same("withSlope(-1000, 40) without points", o.withSlope(-1000, 40), 0);
        Check.same("bestSlope(0, 1) without points", o.bestSlope(0, 1), true);
        Check.same("bestSlope(1000, 40) without points", o.bestSlope(1000, 40), true);
    }

    /** "The cost of a line is the sum of those of all points": without any, 0 for every line. */
    private static void emptied() {
        for (int k = 1; k <= 3; k++) {
            LeastDeviations o = Check.with(k, -20, 20, 3, 4, 20, 20);
            Check.same("withSlope(-9, 7) before the drops", o.withSlope(-9, 7) > 0, true);
            Check.same("bestSlope(-9, 7) before the drops", o.bestSlope(-9, 7), false);
            for (int left = 2; left >= 0; left--) {
                o.drop(0);
            }
            for (int p = -1000; p <= 1000; p += 50) {
                for (int q = 1; q <= 40; q += 13) {
                    Check.same("withSlope(" + p + ", " + q + ") when all are dropped", o.withSlope(p, q), 0);
                    Check.same("bestSlope(" + p + ", " + q + ") when all are dropped", o.bestSlope(p, q), true);
                }
            }
        }
    }

    private static void onePoint() {
        LeastDeviations o = Check.with(1, -20, 20);
        Check.same("withSlope(1000, 1) with one point", o.withSlope(1000, 1), 0);
        Check.same("bestSlope(-7, 3) with one point", o.bestSlope(-7, 3), true);
    }

    private static void threePoints() {
        // Over slope -1/2 the heights times 2 are 0, 3, 3.
        LeastDeviations o = Check.with(3, 0, 0, 1, 1, 3, 0);
        Check.same("withSlope(-1, 2)", o.withSlope(-1, 2), 3);
        Check.same("withSlope(-2, 4), not in lowest terms", o.withSlope(-2, 4), 6);
        Check.same("withSlope(-20, 40)", o.withSlope(-20, 40), 60);
        Check.same("withSlope(0, 1)", o.withSlope(0, 1), 2);
        Check.same("withSlope(0, 40)", o.withSlope(0, 40), 80);
        Check.same("withSlope(1, 2)", o.withSlope(1, 2), 5);
        Check.same("bestSlope(-1, 2)", o.bestSlope(-1, 2), true);
        Check.same("bestSlope(-20, 40)", o.bestSlope(-20, 40), true);
        Check.same("bestSlope(-19, 40)", o.bestSlope(-19, 40), false);
        Check.same("bestSlope(-21, 40)", o.bestSlope(-21, 40), false);
        Check.same("bestSlope(1, 2)", o.bestSlope(1, 2), false);
        Check.same("bestSlope(0, 1)", o.bestSlope(0, 1), false);
    }

    private static void edges() {
        // Heights are 40 * 20 + 1000 * 20 and its negative.
        LeastDeviations o = Check.with(2, -20, 20, -20, 20, -20, 20, -20, 20, 20, -20, 20, -20, 20, -20, 20, -20);
        Check.same("withSlope(1000, 40)", o.withSlope(1000, 40), 2 * 4 * 41600);
        Check.same("withSlope(-1000, 1)", o.withSlope(-1000, 1), 2 * 4 * 39960);
        Check.same("withSlope(-40, 40)", o.withSlope(-40, 40), 0);
        Check.same("bestSlope(1000, 40)", o.bestSlope(1000, 40), false);
        Check.same("bestSlope(-1, 1)", o.bestSlope(-1, 1), true);
    }

    private static void refused(LeastDeviations o) {
        for (int p : BAD_P) {
            Check.same("withSlope(" + p + ", 1)", o.withSlope(p, 1), LeastDeviations.BAD);
            Check.same("bestSlope(" + p + ", 1)", o.bestSlope(p, 1), false);
        }
        for (int q : BAD_Q) {
            Check.same("withSlope(0, " + q + ")", o.withSlope(0, q), LeastDeviations.BAD);
            Check.same("bestSlope(0, " + q + ")", o.bestSlope(0, q), false);
            Check.same("withSlope(1001, " + q + ")", o.withSlope(1001, q), LeastDeviations.BAD);
            Check.same("bestSlope(1001, " + q + ")", o.bestSlope(1001, q), false);
        }
    }

    private static void manyBestSlopes() {
        // Two columns of height 2: with lean 2 every slope from -2 to 2 between them costs the same.
        LeastDeviations o = Check.with(2, 0, 0, 0, 2, 1, 0, 1, 2);
        for (int p = -90; p <= 90; p++) {
            Check.same("bestSlope(" + p + ", 40)", o.bestSlope(p, 40), p >= -80 && p <= 80);
        }
    }

    private static void oneColumn() {
        LeastDeviations o = Check.with(3, 7, 1, 7, 5);
        Check.same("withSlope(3, 7) of a column", o.withSlope(3, 7), 28);
        Check.same("bestSlope(-1000, 1) of a column", o.bestSlope(-1000, 1), true);
        Check.same("bestSlope(1000, 40) of a column", o.bestSlope(1000, 40), true);
    }

    /** "times q", as q is given; but whether a slope is best doesn't hang on how it is written. */
    private static void notInLowestTerms() {
        // With lean 3 the first slope is best, with lean 1 or 2 the second.
        int[][] slopes = {{-1, 2}, {0, 1}, {1, 1}, {-7, 3}, {5, 13}, {50, 1}};
        for (int k = 1; k <= 3; k++) {
            for (int[] slope : slopes) {
                LeastDeviations o = Check.with(k, 0, 0, 1, 1, 3, 0);
                int cost = o.withSlope(slope[0], slope[1]);
                boolean best = slope == slopes[k == 3 ? 0 : 1];
                for (int g = 1; g * slope[1] <= 40 && g * slope[0] <= 1000; g++) {
                    longer(o, g * slope[0], g * slope[1], g * cost, best);
                }
            }
        }
    }

    private static void longer(LeastDeviations o, int p, int q, int cost, boolean best) {
        Check.same("withSlope(" + p + ", " + q + ")", o.withSlope(p, q), cost);
        Check.same("bestSlope(" + p + ", " + q + ")", o.bestSlope(p, q), best);
    }
}
