/** Promise 9 (bestPair). */
public final class PairTest {
    public static void main(String[] args) {
        onlyPair();
        threePoints();
        sameX();
        noSuchPoint();
        collinear();
        Check.end();
    }

    private static void both(LeastDeviations o, int i, int j, boolean due) {
        Check.same("bestPair(" + i + ", " + j + ")", o.bestPair(i, j), due);
        Check.same("bestPair(" + j + ", " + i + ")", o.bestPair(j, i), due);
    }

    private static void onlyPair() {
        both(Check.with(1, -20, 20, 20, -20), 0, 1, true);
        both(Check.with(3, 20, 20, 19, -20), 0, 1, true);
    }

    private static void threePoints() {
        LeastDeviations o = Check.with(3, 0, 0, 1, 1, 3, 0);
        both(o, 1, 2, true);
        both(o, 0, 1, false);
        both(o, 0, 2, false);
        o.lean(2);
        both(o, 1, 2, false);
        both(o, 0, 1, false);
        both(o, 0, 2, true);
        // With lean 3 the two sides of a bump are equally good.
        o = Check.with(3, 0, 0, 2, 1, 4, 0);
        both(o, 0, 1, true);
        both(o, 1, 2, true);
        both(o, 0, 2, false);
    }

    private static void sameX() {
        LeastDeviations o = Check.with(2, 0, 0, 0, 0, 0, 3, 5, 5);
        both(o, 0, 1, false);
        both(o, 0, 2, false);
        both(o, 0, 0, false);
        both(o, 3, 3, false);
        both(o, 0, 3, true);
        both(o, 1, 3, true);
        both(o, 2, 3, false);
        both(Check.with(2, 4, 4), 0, 0, false);
    }

    private static void noSuchPoint() {
        LeastDeviations o = Check.with(2, 0, 0, 1, 1);
        int[] outside = {-1, 2, 7, 8, Integer.MIN_VALUE, Integer.MAX_VALUE};
        for (int i : outside) {
            both(o, 0, i, false);
            both(o, i, i, false);
            both(new LeastDeviations(), 0, i, false);
        }
        // What a dropped point leaves behind isn't a point.
        o.drop(1);
        both(o, 0, 1, false);
        both(new LeastDeviations(), 0, 0, false);
    }

    private static void collinear() {
        LeastDeviations o = Check.with(1, -6, -4, 0, 0, 3, 2, 9, 6, 18, 12);
        for (int i = 0; i < 5; i++) {
            for (int j = 0; j < i; j++) {
                both(o, i, j, true);
            }
        }
    }
}
