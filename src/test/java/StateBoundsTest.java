import java.util.Arrays;

/**
 * The boundary sentences of "Terms" and of the promises 1 to 4 and 12, one method each: both sides of
 * each bound, the smallest and the largest int, and the state after what was refused.
 */
public final class StateBoundsTest {
    /** The last four come inside the bounds if a number is cut to a byte or a short. */
    private static final int[] BAD_COORDINATES = {-21, 21, -22, 22, Integer.MIN_VALUE, Integer.MAX_VALUE,
        Integer.MIN_VALUE + 1, Integer.MAX_VALUE - 1, 256, -256, 65536, -65536};
    private static final int[] BAD_LEANS = {0, 4, -1, 5, -3, Integer.MIN_VALUE, Integer.MAX_VALUE, 257, 65537,
        Integer.MIN_VALUE + 1};
    private static final int[] NEVER_POINTS = {-1, 8, 9, -8, Integer.MIN_VALUE, Integer.MAX_VALUE,
        Integer.MIN_VALUE + 1, 256, 65536};

    public static void main(String[] args) {
        upToEightPoints();
        numberedFromZero();
        coordinatesFromMinus20To20();
        leanFrom1To3();
        costAboveOnAndBelowTheLine();
        newObjectHasNoPoints();
        newObjectHasLean2();
        addWhenEightAreThere();
        addOutsideTheCoordinates();
        addTestsFullFirst();
        dropWhereThereIsNone();
        dropAtBothEnds();
        dropDownToNone();
        leanOutside();
        leanRefusedWithoutPoints();
        pointsFromNoneToEight();
        Check.end();
    }

    /** "There are up to 8 POINTS": all of them are there, each where it was put. */
    private static void upToEightPoints() {
        for (int[] coordinates : State.ALL) {
            for (int k = 1; k <= 3; k++) {
                int lean = k;
                State.same("adds alone", () -> Check.with(lean, coordinates), k, coordinates);
            }
        }
    }

    /** "numbered from 0" */
    private static void numberedFromZero() {
        // In one column, the line through the lowest point has all others above it.
        LeastDeviations o = Check.with(1, 0, -20, 0, 0, 0, 20);
        Check.same("throughTop(-1)", o.throughTop(-1), LeastDeviations.BAD);
        Check.same("throughTop(0), the first", o.throughTop(0), 60);
        Check.same("throughTop(1)", o.throughTop(1), 80);
        Check.same("throughTop(2), the last", o.throughTop(2), 180);
        Check.same("throughTop(3)", o.throughTop(3), LeastDeviations.BAD);
    }

    /** "with whole coordinates x and y from -20 to 20": every one of them is taken, none beside. */
    private static void coordinatesFromMinus20To20() {
        for (int x = -22; x <= 22; x++) {
            LeastDeviations o = new LeastDeviations();
            for (int y = -22; y <= 22; y++) {
                boolean inside = x >= -20 && x <= 20 && y >= -20 && y <= 20;
                Check.same("add(" + x + ", " + y + ")", o.add(x, y), inside ? 1 : LeastDeviations.BAD);
                Check.same("drop(0) behind it", o.drop(0), inside ? 0 : LeastDeviations.BAD);
            }
        }
        State.same("adds in the corners",
            () -> Check.with(2, -20, -20, -20, 20, 20, -20, 20, 20), 2, -20, -20, -20, 20, 20, -20, 20, 20);
    }

    /** "a LEAN k from 1 to 3" */
    private static void leanFrom1To3() {
        for (int from = 1; from <= 3; from++) {
            for (int to = 1; to <= 3; to++) {
                int first = from;
                int second = to;
                State.same("lean(" + from + "), then lean(" + to + ")", () -> {
                    LeastDeviations o = Check.with(first, State.THREE_POINTS);
                    Check.same("lean(" + second + ")", o.lean(second), true);
                    return o;
                }, to, State.THREE_POINTS);
            }
        }
    }

    /** "its COST is k * d if d is above 0, else (k - 4) * d (which is not below 0)" */
    private static void costAboveOnAndBelowTheLine() {
        for (int k = 1; k <= 3; k++) {
            LeastDeviations o = Check.with(k, 9, 4, 9, 4, 9, 5, 9, 3);
            Check.same("one 1 above, one on, one 1 below", o.throughTop(0), k + 4 - k);
            Check.same("two 1 below, one 2 below", o.throughTop(2), (4 - k) * 4);
            Check.same("two 1 above, one 2 above", o.throughTop(3), k * 4);
            Check.same("the point on its own line", Check.with(k, -20, 20).throughTop(0), 0);
        }
    }

    /** "No points" of promise 1. */
    private static void newObjectHasNoPoints() {
        LeastDeviations o = new LeastDeviations();
        Check.same("points of a new object", o.points(), 0);
        Check.same("throughTop(0) of a new object", o.throughTop(0), LeastDeviations.BAD);
        Check.same("throughBottom(0) of a new object", o.throughBottom(0), LeastDeviations.BAD);
        Check.same("bestPair(0, 1) of a new object", o.bestPair(0, 1), false);
        Check.same("drop(0) of a new object", o.drop(0), LeastDeviations.BAD);
        Check.same("first add to a new object", o.add(0, 0), 1);
    }

    /** "the lean is 2" of promise 1. */
    private static void newObjectHasLean2() {
        State.same("nothing", LeastDeviations::new, 2);
        State.same("an add", () -> {
            LeastDeviations o = new LeastDeviations();
            o.add(-7, 11);
            return o;
        }, 2, -7, 11);
    }

    /** "8 points are there: FULL" of promise 2. */
    private static void addWhenEightAreThere() {
        int[] seven = Arrays.copyOf(State.EIGHT_POINTS, 14);
        for (int k = 1; k <= 3; k++) {
            int lean = k;
            State.same("the eighth add", () -> {
                LeastDeviations o = Check.with(lean, seven);
                Check.same("add with 7 points there", o.add(20, -20), 8);
                return o;
            }, k, State.EIGHT_POINTS);
            State.kept("add(1, 2)", o -> o.add(1, 2), LeastDeviations.FULL, k, State.EIGHT_POINTS);
            State.same("a refused add and a drop", () -> {
                LeastDeviations o = Check.with(lean, State.EIGHT_POINTS);
                Check.same("add with 8 points there", o.add(1, 2), LeastDeviations.FULL);
                Check.same("drop(7)", o.drop(7), 7);
                Check.same("add after the drop", o.add(20, -20), 8);
                Check.same("add with 8 points there again", o.add(1, 2), LeastDeviations.FULL);
                return o;
            }, k, State.EIGHT_POINTS);
        }
    }

    /** "x or y outside -20..20: BAD" of promise 2. */
    private static void addOutsideTheCoordinates() {
        int[][] notFull = {State.NO_POINTS, State.ONE_POINT, Arrays.copyOf(State.EIGHT_POINTS, 14)};
        for (int[] coordinates : notFull) {
            for (int v : BAD_COORDINATES) {
                State.kept("add(" + v + ", 0)", o -> o.add(v, 0), LeastDeviations.BAD, 2, coordinates);
                State.kept("add(20, " + v + ")", o -> o.add(20, v), LeastDeviations.BAD, 3, coordinates);
                State.kept("add(" + v + ", " + v + ")", o -> o.add(v, v), LeastDeviations.BAD, 1, coordinates);
            }
        }
    }

    /** "Tested in this order" of promise 2. */
    private static void addTestsFullFirst() {
        for (int v : BAD_COORDINATES) {
            State.kept("add(" + v + ", 0)", o -> o.add(v, 0), LeastDeviations.FULL, 1, State.EIGHT_POINTS);
            State.kept("add(0, " + v + ")", o -> o.add(0, v), LeastDeviations.FULL, 2, State.EIGHT_POINTS);
            State.kept("add(" + v + ", " + v + ")", o -> o.add(v, v), LeastDeviations.FULL, 3, State.EIGHT_POINTS);
        }
    }

    /** "There is none: BAD." of promise 3. */
    private static void dropWhereThereIsNone() {
        for (int i : NEVER_POINTS) {
            State.keptAlways("drop(" + i + ")", o -> o.drop(i), LeastDeviations.BAD);
        }
        for (int n = 0; n <= 8; n++) {
            int none = n;
            int[] coordinates = Arrays.copyOf(State.EIGHT_POINTS, 2 * n);
            State.kept("drop(" + n + ")", o -> o.drop(none), LeastDeviations.BAD, 3, coordinates);
        }
    }

    /** "Takes point i out; later ones move one down": the first and the last are points too. */
    private static void dropAtBothEnds() {
        for (int n = 1; n <= 8; n++) {
            int[] coordinates = Arrays.copyOf(State.EIGHT_POINTS, 2 * n);
            for (int i = 0; i < n; i++) {
                dropOne(coordinates, n, i);
            }
        }
    }

    private static void dropOne(int[] coordinates, int n, int i) {
        int[] left = new int[2 * n - 2];
        System.arraycopy(coordinates, 0, left, 0, 2 * i);
        System.arraycopy(coordinates, 2 * i + 2, left, 2 * i, 2 * (n - 1 - i));
        State.same("drop(" + i + ") of " + n, () -> {
            LeastDeviations o = Check.with(1, coordinates);
            Check.same("drop(" + i + ") of " + n, o.drop(i), n - 1);
            return o;
        }, 1, left);
    }

    /** "Else answers the number of points left": down to 0, where none is left to drop. */
    private static void dropDownToNone() {
        LeastDeviations o = Check.with(3, State.EIGHT_POINTS);
        for (int left = 7; left >= 0; left--) {
            Check.same("drop(0)", o.drop(0), left);
            Check.same("drop of the one behind the last", o.drop(left), LeastDeviations.BAD);
        }
        Check.same("drop(0) without points", o.drop(0), LeastDeviations.BAD);
        Check.same("points after it", o.points(), 0);
        Check.same("add after it", o.add(20, 20), 1);
    }

    /** "k outside 1..3: refused, answers false." of promise 4. */
    private static void leanOutside() {
        for (int k : BAD_LEANS) {
            State.keptAlways("lean(" + k + ")", o -> State.bit(o.lean(k)), 0);
        }
        for (int k = 1; k <= 3; k++) {
            Check.same("lean(" + k + ")", new LeastDeviations().lean(k), true);
        }
    }

    /** A refused lean leaves the one of promise 1, where none was set. */
    private static void leanRefusedWithoutPoints() {
        for (int k : BAD_LEANS) {
            State.same("lean(" + k + ") of a new object", () -> {
                LeastDeviations o = new LeastDeviations();
                Check.same("lean(" + k + ") of a new object", o.lean(k), false);
                return o;
            }, 2);
        }
    }

    /** "The number of points." of promise 12: from 0 to 8, and refused calls don't count. */
    private static void pointsFromNoneToEight() {
        LeastDeviations o = new LeastDeviations();
        for (int n = 0; n <= 8; n++) {
            Check.same("points", o.points(), n);
            o.add(Integer.MIN_VALUE, 0);
            o.add(0, 21);
            o.drop(-1);
            o.drop(n);
            o.lean(4);
            Check.same("points after refused calls", o.points(), n);
            o.add(n, -n);
        }
        Check.same("points after an add too many", o.points(), 8);
        for (int n = 7; n >= 0; n--) {
            o.drop(n / 2);
            Check.same("points after a drop", o.points(), n);
        }
        o.drop(0);
        Check.same("points after a drop too many", o.points(), 0);
        State.keptAlways("points() twice", p -> p.points() - p.points(), 0);
    }
}
