import java.util.Arrays;

/**
 * The boundary sentences of "Terms" on fractions and of the promises 5 to 11, one method each: both
 * sides of each bound, the smallest and the largest int, and the state after what was refused.
 */
public final class AnswerBoundsTest {
    private static final int[] BAD_P = {-1001, 1001, -1002, 1002, Integer.MIN_VALUE, Integer.MAX_VALUE,
        Integer.MIN_VALUE + 1, 65536, -65536};
    private static final int[] BAD_Q = {0, 41, -1, 42, -40, -41, Integer.MIN_VALUE, Integer.MAX_VALUE,
        Integer.MIN_VALUE + 1, 257, 65537};
    private static final int[] GOOD_P = {-1000, -999, -1, 0, 1, 999, 1000};
    private static final int[] GOOD_Q = {1, 2, 39, 40};
    private static final int[] NEVER_POINTS = {-1, 8, 9, -8, Integer.MIN_VALUE, Integer.MAX_VALUE,
        Integer.MIN_VALUE + 1, 256, 65536};

    public static void main(String[] args) {
        lowestTerms();
        bottomAboveZero();
        widestBottom();
        leastTopWithoutPoints();
        leastBottomWithoutPoints();
        leastWithFewPoints();
        withSlopeInside();
        withSlopePOutside();
        withSlopeQOutside();
        withSlopeIsWhole();
        bestSlopeInside();
        bestSlopePOutside();
        bestSlopeQOutside();
        bestPairWithoutSuchPoint();
        bestPairOfOneX();
        bestPairAtTheEnds();
        throughTopWithoutPoint();
        throughBottomWithoutPoint();
        throughAtTheEnds();
        questionsKeepTheState();
        Check.end();
    }

    private static void fraction(String what, int top, int bottom, int dueTop, int dueBottom) {
        Check.same("top of " + what, top, dueTop);
        Check.same("bottom of " + what, bottom, dueBottom);
    }

    private static void least(String what, LeastDeviations o, int dueTop, int dueBottom) {
        fraction("least cost, " + what, o.leastTop(), o.leastBottom(), dueTop, dueBottom);
    }

    private static void through(int i, LeastDeviations o, int dueTop, int dueBottom) {
        fraction("cost through " + i, o.throughTop(i), o.throughBottom(i), dueTop, dueBottom);
    }

    /** "written in lowest terms": of the run of 6 between the ends nothing, a part or all is cut. */
    private static void lowestTerms() {
        least("5 of 6, as it stands", Check.with(1, 0, 0, 1, 1, 6, 1), 5, 6);
        least("4 of 6, cut by 2", Check.with(1, 0, 0, 2, 1, 6, 1), 2, 3);
        least("3 of 6, cut by 3", Check.with(1, 0, 0, 3, 1, 6, 1), 1, 2);
        least("12 of 6, cut by 6", Check.with(1, 0, 0, 3, 2, 6, 0), 2, 1);
        least("0 of 6, cut by 6", Check.with(1, 0, 0, 3, 3, 6, 6), 0, 1);
        LeastDeviations o = Check.with(2, 0, 0, 2, 1, 6, 1);
        through(0, o, 4, 3);
        // Level through the middle point and the last one, with the first 1 below.
        through(1, o, 2, 1);
        through(2, o, 4, 3);
        everyFractionIsLow();
    }

    private static void everyFractionIsLow() {
        for (int x = -20; x <= 20; x++) {
            for (int y = -20; y <= 20; y += 5) {
                LeastDeviations o = Check.with(1 + (x + 20) % 3, x, y, -20, -7, 20, 13, 3, 8);
                low(o.leastTop(), o.leastBottom());
                for (int i = 0; i < 4; i++) {
                    low(o.throughTop(i), o.throughBottom(i));
                }
            }
        }
    }

    private static void low(int top, int bottom) {
        String what = top + " / " + bottom;
        Check.same("top of " + what + " not below 0", top >= 0, true);
        Check.same("bottom of " + what + " above 0", bottom > 0, true);
        Check.same("common divisor of " + what, Oracle.gcd(top, bottom), 1);
    }

    /** "with a denominator above 0": also where the points come from the right to the left. */
    private static void bottomAboveZero() {
        int[][] orders = {{0, 1, 2}, {0, 2, 1}, {1, 0, 2}, {1, 2, 0}, {2, 0, 1}, {2, 1, 0}};
        int[] points = {0, 0, 1, 1, 3, 0};
        int[] throughTops = {3, 3, 3};
        int[] throughBottoms = {1, 2, 2};
        for (int[] order : orders) {
            LeastDeviations o = Check.with(3);
            for (int t : order) {
                o.add(points[2 * t], points[2 * t + 1]);
            }
            least("in the order " + Arrays.toString(order), o, 3, 2);
            for (int t = 0; t < 3; t++) {
                through(t, o, throughTops[order[t]], throughBottoms[order[t]]);
            }
        }
    }

    /** Points from end to end of the coordinates have the greatest bottom, 40. */
    private static void widestBottom() {
        least("over 40", Check.with(1, -20, 0, 1, 1, 20, 1), 19, 40);
        least("over 40, from the right", Check.with(1, 20, 1, 1, 1, -20, 0), 19, 40);
        least("over 39", Check.with(1, -19, 0, 1, 1, 20, 1), 19, 39);
        // The line to the last point is at 20 - 39 * 39 / 40 where x is 19, 79 / 40 above the middle one.
        through(0, Check.with(3, -20, 20, 19, -20, 20, -19), 79, 40);
        through(0, Check.with(1, -20, 0, 1, 1, 20, 1), 19, 40);
        through(2, Check.with(1, -20, 0, 1, 1, 20, 1), 19, 40);
    }

    /** "0 if there are no points" of promise 5. */
    private static void leastTopWithoutPoints() {
        Check.same("leastTop of a new object", new LeastDeviations().leastTop(), 0);
        for (int k = 1; k <= 3; k++) {
            Check.same("leastTop with lean " + k, Check.with(k).leastTop(), 0);
            Check.same("leastTop when all are dropped", emptied(k).leastTop(), 0);
        }
    }

    /** "1 if there are no points" of promise 6. */
    private static void leastBottomWithoutPoints() {
        Check.same("leastBottom of a new object", new LeastDeviations().leastBottom(), 1);
        for (int k = 1; k <= 3; k++) {
            Check.same("leastBottom with lean " + k, Check.with(k).leastBottom(), 1);
            Check.same("leastBottom when all are dropped", emptied(k).leastBottom(), 1);
        }
    }

    /** An object whose least cost was a fraction before its points went. */
    private static LeastDeviations emptied(int k) {
        LeastDeviations o = Check.with(k, -20, 0, 1, 1, 20, 1);
        Check.same("leastBottom before the drops", o.leastBottom() > 1, true);
        for (int left = 2; left >= 0; left--) {
            Check.same("drop(" + left + ")", o.drop(left), left);
        }
        return o;
    }

    /** The other side of "no points": one, two that one line meets, two that no line meets. */
    private static void leastWithFewPoints() {
        int[] corners = {-20, 20};
        for (int k = 1; k <= 3; k++) {
            for (int x : corners) {
                for (int y : corners) {
                    least("one point", Check.with(k, x, y), 0, 1);
                    least("two points apart", Check.with(k, x, y, -x, -y), 0, 1);
                    least("one point twice", Check.with(k, x, y, x, y), 0, 1);
                    least("two of one x", Check.with(k, x, y, x, -y), 40 * Math.min(k, 4 - k), 1);
                }
            }
        }
    }

    private static long oracleSlope(int[] coordinates, int k, int p, int q) {
        int n = coordinates.length / 2;
        int[] x = new int[n];
        int[] y = new int[n];
        for (int t = 0; t < n; t++) {
            x[t] = coordinates[2 * t];
            y[t] = coordinates[2 * t + 1];
        }
        return Oracle.withSlope(x, y, n, k, p, q);
    }

    /** The inner side of the bounds of promise 7. */
    private static void withSlopeInside() {
        for (int[] coordinates : State.ALL) {
            for (int k = 1; k <= 3; k++) {
                LeastDeviations o = Check.with(k, coordinates);
                for (int p : GOOD_P) {
                    for (int q : GOOD_Q) {
                        Check.same("withSlope(" + p + ", " + q + ")",
                            o.withSlope(p, q), oracleSlope(coordinates, k, p, q));
                    }
                }
            }
        }
        // Four points each in the corners that the steepest line misses by most: d is 40 * 40 + 1000 * 40.
        LeastDeviations o = Check.with(2, -20, 20, -20, 20, -20, 20, -20, 20, 20, -20, 20, -20, 20, -20, 20, -20);
        Check.same("withSlope(1000, 40), the most", o.withSlope(1000, 40), 2 * 4 * 41600);
        Check.same("withSlope(-1000, 40)", o.withSlope(-1000, 40), 2 * 4 * 38400);
        Check.same("withSlope(1000, 1)", o.withSlope(1000, 1), 2 * 4 * 40040);
        Check.same("withSlope(-1000, 1)", o.withSlope(-1000, 1), 2 * 4 * 39960);
    }

    /** "p outside -1000..1000 ..: BAD." of promise 7. */
    private static void withSlopePOutside() {
        for (int p : BAD_P) {
            State.keptAlways("withSlope(" + p + ", 1)", o -> o.withSlope(p, 1), LeastDeviations.BAD);
            State.keptAlways("withSlope(" + p + ", 40)", o -> o.withSlope(p, 40), LeastDeviations.BAD);
        }
    }

    /** ".. or q outside 1..40: BAD." of promise 7; also where p is outside too. */
    private static void withSlopeQOutside() {
        for (int q : BAD_Q) {
            State.keptAlways("withSlope(0, " + q + ")", o -> o.withSlope(0, q), LeastDeviations.BAD);
            State.keptAlways("withSlope(1000, " + q + ")", o -> o.withSlope(1000, q), LeastDeviations.BAD);
            for (int p : BAD_P) {
                State.kept("withSlope(" + p + ", " + q + ")",
                    o -> o.withSlope(p, q), LeastDeviations.BAD, 3, State.THREE_POINTS);
            }
        }
    }

    /** "times q (always a whole number)": as p and q are given, not as in lowest terms. */
    private static void withSlopeIsWhole() {
        LeastDeviations o = Check.with(1, 0, 0, 1, 0);
        for (int q = 1; q <= 40; q++) {
            Check.same("withSlope(1, " + q + ")", o.withSlope(1, q), 1);
            Check.same("withSlope(" + q + ", " + q + ")", o.withSlope(q, q), q);
        }
    }

    /** The inner side of the bounds of promise 8: every slope is best where all points have one x. */
    private static void bestSlopeInside() {
        for (int k = 1; k <= 3; k++) {
            LeastDeviations[] column = {Check.with(k), Check.with(k, 20, 20), Check.with(k, -20, 20, -20, -20, -20, 3)};
            for (LeastDeviations o : column) {
                for (int p : GOOD_P) {
                    for (int q : GOOD_Q) {
                        Check.same("bestSlope(" + p + ", " + q + ")", o.bestSlope(p, q), true);
                    }
                }
            }
        }
        LeastDeviations steep = Check.with(2, 0, -20, 1, 20);
        Check.same("bestSlope(39, 1)", steep.bestSlope(39, 1), false);
        Check.same("bestSlope(40, 1)", steep.bestSlope(40, 1), true);
        Check.same("bestSlope(41, 1)", steep.bestSlope(41, 1), false);
        Check.same("bestSlope(-40, 1)", steep.bestSlope(-40, 1), false);
        Check.same("bestSlope(1000, 25)", steep.bestSlope(1000, 25), true);
        LeastDeviations flat = Check.with(2, -20, 0, 20, 1);
        Check.same("bestSlope(1, 40)", flat.bestSlope(1, 40), true);
        Check.same("bestSlope(1, 39)", flat.bestSlope(1, 39), false);
        Check.same("bestSlope(0, 40)", flat.bestSlope(0, 40), false);
    }

    /** "false if p is outside -1000..1000": also where every line of that slope would be best. */
    private static void bestSlopePOutside() {
        for (int p : BAD_P) {
            State.keptAlways("bestSlope(" + p + ", 1)", o -> State.bit(o.bestSlope(p, 1)), 0);
            State.keptAlways("bestSlope(" + p + ", 40)", o -> State.bit(o.bestSlope(p, 40)), 0);
        }
        // The slope 40 is best; 1040 / 26 is only written too long.
        Check.same("bestSlope(1040, 26)", Check.with(2, 0, -20, 1, 20).bestSlope(1040, 26), false);
    }

    /** ".. or q outside 1..40" of promise 8; also where p is outside too. */
    private static void bestSlopeQOutside() {
        for (int q : BAD_Q) {
            State.keptAlways("bestSlope(0, " + q + ")", o -> State.bit(o.bestSlope(0, q)), 0);
            State.keptAlways("bestSlope(1000, " + q + ")", o -> State.bit(o.bestSlope(1000, q)), 0);
            for (int p : BAD_P) {
                State.kept("bestSlope(" + p + ", " + q + ")",
                    o -> State.bit(o.bestSlope(p, q)), 0, 1, State.ONE_POINT);
            }
        }
        // The slope 1 is best, but not when it is written over a q outside.
        LeastDeviations o = Check.with(2, 0, 0, 1, 1);
        Check.same("bestSlope(40, 40)", o.bestSlope(40, 40), true);
        Check.same("bestSlope(41, 41)", o.bestSlope(41, 41), false);
        Check.same("bestSlope(0, 0)", o.bestSlope(0, 0), false);
        Check.same("bestSlope(-1, -1)", o.bestSlope(-1, -1), false);
    }

    /** "false if there is no such point" of promise 9: the first, the second, or both. */
    private static void bestPairWithoutSuchPoint() {
        for (int i : NEVER_POINTS) {
            State.keptAlways("bestPair(0, " + i + ")", o -> State.bit(o.bestPair(0, i)), 0);
            State.keptAlways("bestPair(" + i + ", 0)", o -> State.bit(o.bestPair(i, 0)), 0);
            State.keptAlways("bestPair(" + i + ", " + i + ")", o -> State.bit(o.bestPair(i, i)), 0);
            State.keptAlways("bestPair(" + i + ", -1)", o -> State.bit(o.bestPair(i, -1)), 0);
        }
        for (int n = 0; n <= 8; n++) {
            for (int i = 0; i <= n; i++) {
                pairBehindTheLast(i, n);
            }
        }
    }

    private static void pairBehindTheLast(int i, int n) {
        int[] line = onOneLine(n);
        State.kept("bestPair(" + i + ", " + n + ")", o -> State.bit(o.bestPair(i, n)), 0, 3, line);
        State.kept("bestPair(" + n + ", " + i + ")", o -> State.bit(o.bestPair(n, i)), 0, 1, line);
    }

    /** Points on one line: each two of them are a best pair. */
    private static int[] onOneLine(int n) {
        int[] coordinates = new int[2 * n];
        for (int t = 0; t < n; t++) {
            coordinates[2 * t] = 5 * t - 18;
            coordinates[2 * t + 1] = 3 * t - 10;
        }
        return coordinates;
    }

    /** "or both have the same x" of promise 9: x of 0 or at a bound, and x that differ by one. */
    private static void bestPairOfOneX() {
        int[] some = {-20, 0, 20};
        for (int x : some) {
            int beside = x == 20 ? 19 : x + 1;
            State.kept("bestPair(0, 1) of one x", o -> State.bit(o.bestPair(0, 1)), 0, 2, x, -20, x, 20);
            State.kept("bestPair(1, 0) of one place", o -> State.bit(o.bestPair(1, 0)), 0, 1, x, 3, x, 3);
            State.kept("bestPair(0, 0)", o -> State.bit(o.bestPair(0, 0)), 0, 3, x, 20);
            State.kept("bestPair(0, 1) of neighbours", o -> State.bit(o.bestPair(0, 1)), 1, 2, x, -20, beside, 20);
            State.kept("bestPair(1, 0) of neighbours", o -> State.bit(o.bestPair(1, 0)), 1, 2, x, -20, beside, 20);
        }
        // The same y or the opposite x is not the same x.
        Check.same("bestPair(0, 1) of one y", Check.with(2, -20, 20, 20, 20).bestPair(0, 1), true);
        // All on one line, the last two in one place.
        LeastDeviations o = Check.with(3, 0, 0, 5, 5, 5, 5);
        Check.same("bestPair(1, 2)", o.bestPair(1, 2), false);
        Check.same("bestPair(0, 2)", o.bestPair(0, 2), true);
    }

    /** The inner side of "no such point": the first and the last of two to eight points. */
    private static void bestPairAtTheEnds() {
        for (int n = 2; n <= 8; n++) {
            LeastDeviations o = Check.with(2, onOneLine(n));
            Check.same("bestPair(0, " + (n - 1) + ")", o.bestPair(0, n - 1), true);
            Check.same("bestPair(" + (n - 1) + ", 0)", o.bestPair(n - 1, 0), true);
            o.drop(n - 1);
            Check.same("bestPair(0, " + (n - 1) + ") when it is dropped", o.bestPair(0, n - 1), false);
        }
    }

    /** "BAD if there is no point i." of promise 10. */
    private static void throughTopWithoutPoint() {
        for (int i : NEVER_POINTS) {
            State.keptAlways("throughTop(" + i + ")", o -> o.throughTop(i), LeastDeviations.BAD);
        }
        for (int n = 0; n <= 8; n++) {
            int none = n;
            int[] coordinates = Arrays.copyOf(State.EIGHT_POINTS, 2 * n);
            State.kept("throughTop(" + n + ")", o -> o.throughTop(none), LeastDeviations.BAD, 1, coordinates);
        }
    }

    /** "BAD if there is no point i." of promise 11. */
    private static void throughBottomWithoutPoint() {
        for (int i : NEVER_POINTS) {
            State.keptAlways("throughBottom(" + i + ")", o -> o.throughBottom(i), LeastDeviations.BAD);
        }
        for (int n = 0; n <= 8; n++) {
            int none = n;
            int[] coordinates = Arrays.copyOf(State.EIGHT_POINTS, 2 * n);
            State.kept("throughBottom(" + n + ")", o -> o.throughBottom(none), LeastDeviations.BAD, 3, coordinates);
        }
    }

    /** The inner side of "no point i": the first and the last, and the last no more when it is dropped. */
    private static void throughAtTheEnds() {
        for (int n = 1; n <= 8; n++) {
            LeastDeviations o = Check.with(2, onOneLine(n));
            through(0, o, 0, 1);
            through(n - 1, o, 0, 1);
            o.drop(n - 1);
            through(n - 1, o, LeastDeviations.BAD, LeastDeviations.BAD);
        }
    }

    /** "Nothing is promised beyond the .. state changes described": a question makes none. */
    private static void questionsKeepTheState() {
        State.keptAlways("leastTop() twice", o -> o.leastTop() - o.leastTop(), 0);
        State.keptAlways("leastBottom() twice", o -> o.leastBottom() - o.leastBottom(), 0);
        State.keptAlways("withSlope(-1000, 40) twice", o -> o.withSlope(-1000, 40) - o.withSlope(-1000, 40), 0);
        State.keptAlways("bestSlope(1000, 1) twice",
            o -> State.bit(o.bestSlope(1000, 1)) - State.bit(o.bestSlope(1000, 1)), 0);
        State.keptAlways("bestPair(0, 1) twice", o -> State.bit(o.bestPair(0, 1)) - State.bit(o.bestPair(0, 1)), 0);
        State.keptAlways("throughTop(0) twice", o -> o.throughTop(0) - o.throughTop(0), 0);
        State.keptAlways("throughBottom(0) twice", o -> o.throughBottom(0) - o.throughBottom(0), 0);
    }
}
