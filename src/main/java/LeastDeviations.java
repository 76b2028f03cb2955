/**
 * Straight lines with the least sum of deviations.
 *
 * The cost of a line is convex and made of flat pieces in (slope, height), and pieces meet only where
 * the line touches a point. So a smallest cost is always found on a line through two points of
 * different x or, where all points share one x and the slope doesn't matter, on the level line through
 * one of them. Every cost stays far below what an int holds (24 * 41600, times 40 where two fractions
 * are compared), so int is wide enough throughout.
 */
public final class LeastDeviations {
    public static final int BAD = -1;
    public static final int FULL = -2;

    private static final int MOST_POINTS = 8;
    private static final int MOST_COORDINATE = 20;
    private static final int FIRST_LEAN = 2;
    private static final int MOST_LEAN = 3;
    private static final int LEAN_SUM = 4;
    private static final int MOST_RISE = 1000;
    private static final int MOST_RUN = 40;

    private final int[] xs = new int[MOST_POINTS];
    private final int[] ys = new int[MOST_POINTS];
    private int count;
    private int currentLean;

    public LeastDeviations() {
        count = 0;
        currentLean = FIRST_LEAN;
    }

    public int add(int x, int y) {
        if (count >= MOST_POINTS) {
            return FULL;
        }
        if (!isCoordinate(x) || !isCoordinate(y)) {
            return BAD;
        }
        xs[count] = x;
        ys[count] = y;
        count++;
        return count;
    }

    public int drop(int i) {
        if (!isPoint(i)) {
            return BAD;
        }
        for (int t = i; t + 1 < count; t++) {
            xs[t] = xs[t + 1];
            ys[t] = ys[t + 1];
        }
        count--;
        return count;
    }

    public boolean lean(int k) {
        if (k < 1 || k > MOST_LEAN) {
            return false;
        }
        currentLean = k;
        return true;
    }

    public int leastTop() {
        if (count == 0) {
            return 0;
        }
        int i = bestStart();
        int j = bestPartner(i);
        return reducedTop(i, j);
    }

    public int leastBottom() {
        if (count == 0) {
            return 1;
        }
        int i = bestStart();
        int j = bestPartner(i);
        return reducedBottom(i, j);
    }

    public int withSlope(int p, int q) {
        if (!isSlope(p, q)) {
            return BAD;
        }
        return leastWithSlope(p, q);
    }

    public boolean bestSlope(int p, int q) {
        if (!isSlope(p, q)) {
            return false;
        }
        int cost = leastWithSlope(p, q);
        int top = leastTop();
        int bottom = leastBottom();
        return cost * bottom == top * q;
    }

    public boolean bestPair(int i, int j) {
        if (!isPoint(i) || !isPoint(j) || xs[i] == xs[j]) {
            return false;
        }
        int pairTop = lineTop(i, j);
        int pairBottom = lineBottom(i, j);
        int top = leastTop();
        int bottom = leastBottom();
        return pairTop * bottom == top * pairBottom;
    }

    public int throughTop(int i) {
        if (!isPoint(i)) {
            return BAD;
        }
        int j = bestPartner(i);
        return reducedTop(i, j);
    }

    public int throughBottom(int i) {
        if (!isPoint(i)) {
            return BAD;
        }
        int j = bestPartner(i);
        return reducedBottom(i, j);
    }

    public int points() {
        return count;
    }

    private boolean isPoint(int i) {
        return i >= 0 && i < count;
    }

    private boolean isCoordinate(int v) {
        return v >= -MOST_COORDINATE && v <= MOST_COORDINATE;
    }

    private boolean isSlope(int p, int q) {
        return p >= -MOST_RISE && p <= MOST_RISE && q >= 1 && q <= MOST_RUN;
    }

    /** The cost, times run, of the line through point i with the slope rise / run; run is above 0. */
    private int scaledCost(int i, int rise, int run) {
        int sum = 0;
        for (int t = 0; t < count; t++) {
            int d = run * (ys[t] - ys[i]) - rise * (xs[t] - xs[i]);
            sum += d > 0 ? currentLean * d : (currentLean - LEAN_SUM) * d;
        }
        return sum;
    }

    /** The smallest cost, times q, of a line with the slope p / q. */
    private int leastWithSlope(int p, int q) {
        if (count == 0) {
            return 0;
        }
        int least = scaledCost(0, p, q);
        for (int i = 1; i < count; i++) {
            int cost = scaledCost(i, p, q);
            if (cost < least) {
                least = cost;
            }
        }
        return least;
    }

    /**
     * The cost of the line through points i and j, times lineBottom(i, j).
     * Points of one x stand for the level line through i: it is a line through i too, so it can be
     * tried beside the others, and it is as good as any where no point has another x.
     */
    private int lineTop(int i, int j) {
        int rise = ys[j] - ys[i];
        int run = xs[j] - xs[i];
        if (run == 0) {
            return scaledCost(i, 0, 1);
        }
        if (run < 0) {
            return scaledCost(i, -rise, -run);
        }
        return scaledCost(i, rise, run);
    }

    private int lineBottom(int i, int j) {
        int run = xs[j] - xs[i];
        if (run == 0) {
            return 1;
        }
        return run < 0 ? -run : run;
    }

    /** The point whose line with point i costs least among the lines through i. */
    private int bestPartner(int i) {
        int best = i;
        int bestTop = lineTop(i, i);
        int bestBottom = lineBottom(i, i);
        for (int j = 0; j < count; j++) {
            int top = lineTop(i, j);
            int bottom = lineBottom(i, j);
            if (top * bestBottom < bestTop * bottom) {
                best = j;
                bestTop = top;
                bestBottom = bottom;
            }
        }
        return best;
    }

    /** A point that a best line goes through; there is at least one point. */
    private int bestStart() {
        int best = 0;
        int partner = bestPartner(0);
        int bestTop = lineTop(0, partner);
        int bestBottom = lineBottom(0, partner);
        for (int i = 1; i < count; i++) {
            partner = bestPartner(i);
            int top = lineTop(i, partner);
            int bottom = lineBottom(i, partner);
            if (top * bestBottom < bestTop * bottom) {
                best = i;
                bestTop = top;
                bestBottom = bottom;
            }
        }
        return best;
    }

    private int reducedTop(int i, int j) {
        int top = lineTop(i, j);
        int bottom = lineBottom(i, j);
        int divisor = commonDivisor(top, bottom);
        return top / divisor;
    }

    private int reducedBottom(int i, int j) {
        int top = lineTop(i, j);
        int bottom = lineBottom(i, j);
        int divisor = commonDivisor(top, bottom);
        return bottom / divisor;
    }

    /** The greatest common divisor, 1 or more; bottom is at most 40, so counting down is cheap. */
    private int commonDivisor(int top, int bottom) {
        for (int g = bottom; g > 1; g--) {
            if (top % g == 0 && bottom % g == 0) {
                return g;
            }
        }
        return 1;
    }
}
