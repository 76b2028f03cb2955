/** Long runs of calls, made by a fixed rule, each answer held against the oracle. All promises. */
public final class OracleTest {
    private static final int CALLS = 512;
    private static final int MOST_CALLS_OF_A_STEP = 2;
    private static final int OBJECTS = 100;

    private static long seed = 1;
    private static LeastDeviations o;
    private static final int[] x = new int[8];
    private static final int[] y = new int[8];
    private static int n;
    private static int k;

    public static void main(String[] args) {
        int[] spans = {20, 3, 8, 1, 21};
        for (int t = 0; t < OBJECTS; t++) {
            o = new LeastDeviations();
            n = 0;
            k = 2;
            // What is answered after the last of these calls is free, so no step may reach beyond it.
            int calls = 0;
            while (calls + MOST_CALLS_OF_A_STEP <= CALLS) {
                calls += step(spans[t % spans.length]);
            }
        }
        Check.end();
    }

    /** A whole number from low to high, the same ones in every run of this test. */
    private static int pick(int low, int high) {
        seed = seed * 6364136223846793005L + 1442695040888963407L;
        return low + (int) ((seed >>> 33) % (high - low + 1));
    }

    /** Makes one or two calls and answers how many. */
    private static int step(int span) {
        int what = pick(0, 19);
        if (what < 6) {
            add(pick(-span, span), pick(-20, 21));
            return 1;
        }
        if (what < 8) {
            drop(pick(-1, 8));
            return 1;
        }
        if (what < 9) {
            lean(pick(0, 4));
            return 1;
        }
        if (what < 11) {
            least();
            return 2;
        }
        if (what < 14) {
            slope(pick(0, 1) == 0 ? pick(-1002, 1002) : pick(-40, 40), pick(0, 41));
            return 2;
        }
        if (what < 17) {
            pair(pick(-1, 8), pick(-1, 8));
            return 1;
        }
        if (what < 19) {
            through(pick(-1, 8));
            return 2;
        }
        Check.same("points", o.points(), n);
        return 1;
    }

    private static void add(int px, int py) {
        long due;
        if (n == 8) {
            due = -2;
        } else if (Math.abs(px) > 20 || Math.abs(py) > 20) {
            due = -1;
        } else {
            x[n] = px;
            y[n] = py;
            n++;
            due = n;
        }
        Check.same("add(" + px + ", " + py + ")", o.add(px, py), due);
    }

    private static void drop(int i) {
        long due = -1;
        if (i >= 0 && i < n) {
            System.arraycopy(x, i + 1, x, i, n - i - 1);
            System.arraycopy(y, i + 1, y, i, n - i - 1);
            n--;
            due = n;
        }
        Check.same("drop(" + i + ")", o.drop(i), due);
    }

    private static void lean(int to) {
        boolean due = to >= 1 && to <= 3;
        if (due) {
            k = to;
        }
        Check.same("lean(" + to + ")", o.lean(to), due);
    }

    private static void least() {
        long[] due = Oracle.least(x, y, n, k);
        Check.same("leastTop()", o.leastTop(), due[0]);
        Check.same("leastBottom()", o.leastBottom(), due[1]);
    }

    private static void slope(int p, int q) {
        boolean fit = Math.abs(p) <= 1000 && q >= 1 && q <= 40;
        long due = fit ? Oracle.withSlope(x, y, n, k, p, q) : -1;
        long[] least = Oracle.least(x, y, n, k);
        Check.same("withSlope(" + p + ", " + q + ")", o.withSlope(p, q), due);
        Check.same("bestSlope(" + p + ", " + q + ")", o.bestSlope(p, q), fit && due * least[1] == least[0] * q);
        // The scan of slopes stands on the claim that no other slope does better.
        Check.same("a slope below the least", fit && due * least[1] < least[0] * q, false);
    }

    private static void pair(int i, int j) {
        boolean fit = i >= 0 && i < n && j >= 0 && j < n && x[i] != x[j];
        Check.same("bestPair(" + i + ", " + j + ")", o.bestPair(i, j), fit && Oracle.pairIsBest(x, y, n, k, i, j));
    }

    private static void through(int i) {
        boolean fit = i >= 0 && i < n;
        long[] due = fit ? Oracle.through(x, y, n, k, i) : new long[] {-1, -1};
        Check.same("throughTop(" + i + ")", o.throughTop(i), due[0]);
        Check.same("throughBottom(" + i + ")", o.throughBottom(i), due[1]);
    }
}
