/** Promises 1 (a new object), 2 (add), 3 (drop), 4 (lean) and 12 (points). */
public final class StateTest {
    public static void main(String[] args) {
        newObject();
        objectsAreApart();
        addCounts();
        addRefuses();
        fullBeforeBad();
        dropMovesDown();
        dropRefuses();
        dropMakesRoom();
        leanSets();
        leanRefuses();
        questionsChangeNothing();
        Check.end();
    }

    private static void newObject() {
        LeastDeviations o = new LeastDeviations();
        Check.same("new points", o.points(), 0);
        Check.same("new leastTop", o.leastTop(), 0);
        Check.same("new leastBottom", o.leastBottom(), 1);
        Check.same("new drop(0)", o.drop(0), LeastDeviations.BAD);
        // Lean 2 shows in the sum: 2 * 7 with one point above the other, where lean 1 or 3 give 7.
        o.add(0, 0);
        o.add(0, 7);
        Check.same("new lean is 2", o.leastTop(), 14);
    }

    private static void objectsAreApart() {
        LeastDeviations a = new LeastDeviations();
        LeastDeviations b = new LeastDeviations();
        a.add(1, 1);
        a.lean(3);
        Check.same("other object's points", b.points(), 0);
        b.add(0, 0);
        b.add(0, 7);
        Check.same("other object's lean", b.leastTop(), 14);
    }

    private static void addCounts() {
        LeastDeviations o = new LeastDeviations();
        int[] edge = {-20, 20, 20, -20, -20, -20, 20, 20, 0, 0, 0, 0, 1, 0, 0, 1};
        for (int t = 0; t < 8; t++) {
            Check.same("add number " + t, o.add(edge[2 * t], edge[2 * t + 1]), t + 1);
            Check.same("points after add", o.points(), t + 1);
        }
    }

    private static void addRefuses() {
        LeastDeviations o = Check.with(2, 3, 4);
        int[] outside = {-21, 21, 22, 1000, Integer.MIN_VALUE, Integer.MAX_VALUE};
        for (int v : outside) {
            Check.same("add(" + v + ", 0)", o.add(v, 0), LeastDeviations.BAD);
            Check.same("add(0, " + v + ")", o.add(0, v), LeastDeviations.BAD);
            Check.same("add(" + v + ", " + v + ")", o.add(v, v), LeastDeviations.BAD);
        }
        Check.same("points after refused adds", o.points(), 1);
        Check.same("add after refused ones", o.add(-20, 20), 2);
    }

    private static void fullBeforeBad() {
        LeastDeviations o = Check.with(2, 0, 0, 1, 1, 2, 2, 3, 3, 4, 4, 5, 5, 6, 6);
        Check.same("BAD while one place is free", o.add(21, 0), LeastDeviations.BAD);
        Check.same("eighth add", o.add(7, 7), 8);
        Check.same("add when full", o.add(0, 9), LeastDeviations.FULL);
        Check.same("bad x when full", o.add(21, 0), LeastDeviations.FULL);
        Check.same("bad y when full", o.add(0, Integer.MIN_VALUE), LeastDeviations.FULL);
        Check.same("points when full", o.points(), 8);
        Check.same("nothing changed", o.leastTop(), 0);
    }

    private static void dropMovesDown() {
        // Each point of one x costs its own sum, so throughTop tells which point stands where.
        LeastDeviations o = Check.with(2, 0, 0, 0, 1, 0, 3, 0, 10);
        Check.same("drop(1)", o.drop(1), 3);
        Check.same("points", o.points(), 3);
        Check.same("point 0 is at 0", o.throughTop(0), 2 * (3 + 10));
        Check.same("point 1 is at 3", o.throughTop(1), 2 * (3 + 7));
        Check.same("point 2 is at 10", o.throughTop(2), 2 * (10 + 7));
        Check.same("there is no point 3", o.throughTop(3), LeastDeviations.BAD);
        Check.same("drop(2), the last", o.drop(2), 2);
        Check.same("left are 0 and 3", o.leastTop(), 6);
        Check.same("drop(0), the first", o.drop(0), 1);
        Check.same("add behind it", o.add(5, 5), 2);
        Check.same("3 came before the new one", o.bestPair(0, 1), true);
        Check.same("slope from (0, 3) to (5, 5)", o.withSlope(2, 5), 0);
        Check.same("another slope", o.withSlope(-2, 5), 2 * 20);
        Check.same("drop(0)", o.drop(0), 1);
        Check.same("drop(0)", o.drop(0), 0);
        Check.same("leastTop when empty again", o.leastTop(), 0);
        Check.same("leastBottom when empty again", o.leastBottom(), 1);
        Check.same("drop(0) when empty", o.drop(0), LeastDeviations.BAD);
    }

    private static void dropRefuses() {
        LeastDeviations o = Check.with(2, 0, 0, 0, 7);
        int[] outside = {-1, 2, 7, 8, 9, Integer.MIN_VALUE, Integer.MAX_VALUE};
        for (int i : outside) {
            Check.same("drop(" + i + ")", o.drop(i), LeastDeviations.BAD);
        }
        Check.same("points after refused drops", o.points(), 2);
        Check.same("leastTop after refused drops", o.leastTop(), 14);
    }

    private static void dropMakesRoom() {
        LeastDeviations o = Check.with(2, 0, 0, 1, 1, 2, 2, 3, 3, 4, 4, 5, 5, 6, 6, 7, 8);
        Check.same("drop(7) of 8", o.drop(7), 7);
        Check.same("all on one line", o.leastTop(), 0);
        Check.same("add in its place", o.add(7, 9), 8);
        Check.same("drop(0) of 8", o.drop(0), 7);
        Check.same("add again", o.add(0, 0), 8);
        Check.same("add when full", o.add(0, 0), LeastDeviations.FULL);
        Check.same("point 6 is (7, 9)", o.throughTop(6), Oracle.through(
            new int[] {1, 2, 3, 4, 5, 6, 7, 0}, new int[] {1, 2, 3, 4, 5, 6, 9, 0}, 8, 2, 6)[0]);
    }

    private static void leanSets() {
        // A point 5 above two at 0: lifting the line costs 4 - k for each of the two, else k * 5.
        LeastDeviations o = Check.with(2, 0, 0, 0, 0, 0, 5);
        int[] due = {0, 5, 10, 10};
        for (int k = 1; k <= 3; k++) {
            Check.same("lean(" + k + ")", o.lean(k), true);
            Check.same("leastTop with lean " + k, o.leastTop(), due[k]);
        }
        Check.same("lean(1) again", o.lean(1), true);
        Check.same("leastTop with lean 1 again", o.leastTop(), due[1]);
    }

    private static void leanRefuses() {
        LeastDeviations o = Check.with(1, 0, 0, 0, 0, 0, 5);
        int[] outside = {0, 4, -1, 5, Integer.MIN_VALUE, Integer.MAX_VALUE};
        for (int k : outside) {
            Check.same("lean(" + k + ")", o.lean(k), false);
            Check.same("leastTop after a refused lean", o.leastTop(), 5);
        }
    }

    private static void questionsChangeNothing() {
        LeastDeviations o = Check.with(3, 0, 0, 1, 1, 3, 0);
        for (int round = 0; round < 3; round++) {
            Check.same("leastTop", o.leastTop(), 3);
            Check.same("leastBottom", o.leastBottom(), 2);
            Check.same("throughTop(0)", o.throughTop(0), 3);
            Check.same("throughBottom(0)", o.throughBottom(0), 1);
            Check.same("withSlope(-1, 2)", o.withSlope(-1, 2), 3);
            Check.same("bestSlope(-1, 2)", o.bestSlope(-1, 2), true);
            Check.same("bestPair(1, 2)", o.bestPair(1, 2), true);
            Check.same("points", o.points(), 3);
        }
    }
}
