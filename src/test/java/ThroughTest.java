/** Promises 10 (throughTop) and 11 (throughBottom). */
public final class ThroughTest {
    public static void main(String[] args) {
        through(Check.with(2, 4, -4), 0, 0, 1);
        through(Check.with(2, 4, -4, -9, 3), 1, 0, 1);
        threePoints();
        column();
        notTheLeast();
        noSuchPoint(new LeastDeviations());
        noSuchPoint(Check.with(2, 0, 0));
        noSuchPoint(Check.with(2, 0, 0, 1, 1, 2, 2, 3, 3, 4, 4, 5, 5, 6, 6, 7, 7));
        Check.end();
    }

    private static void through(LeastDeviations o, int i, int top, int bottom) {
        Check.same("throughTop(" + i + ")", o.throughTop(i), top);
        Check.same("throughBottom(" + i + ")", o.throughBottom(i), bottom);
    }

    private static void threePoints() {
        LeastDeviations o = Check.with(3, 0, 0, 1, 1, 3, 0);
        through(o, 0, 3, 1);
        through(o, 1, 3, 2);
        through(o, 2, 3, 2);
        o.lean(1);
        through(o, 0, 1, 1);
        through(o, 1, 9, 2);
        through(o, 2, 1, 1);
        // Over the bottom 2, in lowest terms over 1.
        through(Check.with(2, 0, 0, 2, 1, 4, 0), 1, 4, 1);
    }

    private static void column() {
        LeastDeviations o = Check.with(2, 5, -20, 5, 20, 5, 3);
        through(o, 0, 126, 1);
        through(o, 1, 114, 1);
        through(o, 2, 80, 1);
        o.lean(1);
        through(o, 0, 63, 1);
        through(o, 1, 171, 1);
        through(o, 2, 17 + 3 * 23, 1);
    }

    private static void notTheLeast() {
        LeastDeviations o = Check.with(2, 0, 0, 1, 2, 2, 1, 3, 5);
        through(o, 0, 16, 3);
        through(o, 2, 10, 1);
        through(o, 3, 16, 3);
    }

    private static void noSuchPoint(LeastDeviations o) {
        int n = o.points();
        int[] outside = {-1, n, n + 1, 8, 100, Integer.MIN_VALUE, Integer.MAX_VALUE};
        for (int i : outside) {
            Check.same("throughTop(" + i + ")", o.throughTop(i), LeastDeviations.BAD);
            Check.same("throughBottom(" + i + ")", o.throughBottom(i), LeastDeviations.BAD);
        }
    }
}
