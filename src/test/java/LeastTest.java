/** Promises 5 (leastTop) and 6 (leastBottom). */
public final class LeastTest {
    public static void main(String[] args) {
        least(Check.with(2), 0, 1);
        least(Check.with(1, 20, -20), 0, 1);
        least(Check.with(3, 0, 3, 5, -11), 0, 1);
        least(Check.with(2, -6, -4, 0, 0, 3, 2, 9, 6, 18, 12), 0, 1);
        sharedX();
        bumpOverLevel();
        fractions();
        repeatedPoints();
        widest();
        Check.end();
    }

    private static void least(LeastDeviations o, int top, int bottom) {
        Check.same("leastTop", o.leastTop(), top);
        Check.same("leastBottom", o.leastBottom(), bottom);
    }

    private static void sharedX() {
        least(Check.with(2, 5, -20, 5, 20, 5, 3), 80, 1);
        least(Check.with(1, 5, -20, 5, 20, 5, 3), 63, 1);
        least(Check.with(3, 5, -20, 5, 20, 5, 3), 57, 1);
        // One point beside a column is met by turning the line, so the column alone counts.
        least(Check.with(2, 5, -20, 5, 20, 5, 3, 6, 0), 80, 1);
    }

    private static void bumpOverLevel() {
        // Computed over the bottom 4: lowest terms have the bottom 1.
        least(Check.with(1, 0, 0, 2, 1, 4, 0), 1, 1);
        least(Check.with(2, 0, 0, 2, 1, 4, 0), 2, 1);
        least(Check.with(3, 0, 0, 2, 1, 4, 0), 2, 1);
    }

    private static void fractions() {
        least(Check.with(3, 0, 0, 1, 1, 3, 0), 3, 2);
        least(Check.with(3, 3, 0, 1, 1, 0, 0), 3, 2);
        least(Check.with(1, 0, 0, 1, -1, 3, 0), 3, 2);
        least(Check.with(2, 0, 0, 1, 2, 2, 1, 3, 5), 16, 3);
        // The line from end to end is at 21 / 40 where x is 1, so the middle point is 19 / 40 above it.
        least(Check.with(1, -20, 0, 1, 1, 20, 1), 19, 40);
    }

    private static void repeatedPoints() {
        least(Check.with(2, 4, 4, 4, 4, 4, 4), 0, 1);
        least(Check.with(2, 0, 0, 0, 0, 1, 5, 1, 5), 0, 1);
        least(Check.with(2, 0, 0, 0, 0, 0, 1, 0, 1), 4, 1);
    }

    private static void widest() {
        for (int k = 1; k <= 3; k++) {
            LeastDeviations o = Check.with(k, -20, -20, -20, 20, 20, -20, 20, 20, -20, -20, -20, 20, 20, -20, 20, 20);
            least(o, k == 2 ? 320 : 160, 1);
        }
    }
}
