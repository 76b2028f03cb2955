import java.util.Arrays;

/**
 * The document's terms worked out in other ways than the program's: least costs by a scan over every
 * slope that two points can have, heights by the quantile rule, best lines by directional derivatives.
 * A cost is a long[] {top, bottom} in lowest terms.
 */
final class Oracle {
    private static final int SPAN = 40;

    private Oracle() {
    }

    static long one(int k, long d) {
        return d > 0 ? k * d : (k - 4) * d;
    }

    static long gcd(long a, long b) {
        return b == 0 ? Math.abs(a) : gcd(b, a % b);
    }

    /** A best height is at the k / 4 quantile of the heights of the lines through the points. */
    static long withSlope(int[] x, int[] y, int n, int k, long p, long q) {
        if (n == 0) {
            return 0;
        }
        long[] e = new long[n];
        for (int t = 0; t < n; t++) {
            e[t] = q * y[t] - p * x[t];
        }
        Arrays.sort(e);
        long c = e[(k * n + 3) / 4 - 1];
        long sum = 0;
        for (int t = 0; t < n; t++) {
            sum += one(k, e[t] - c);
        }
        return sum;
    }

    static long costThrough(int[] x, int[] y, int n, int k, int i, long p, long q) {
        long sum = 0;
        for (int t = 0; t < n; t++) {
            sum += one(k, q * y[t] - p * x[t] - (q * y[i] - p * x[i]));
        }
        return sum;
    }

    static long[] least(int[] x, int[] y, int n, int k) {
        return scan(x, y, n, k, -1);
    }

    static long[] through(int[] x, int[] y, int n, int k, int i) {
        return scan(x, y, n, k, i);
    }

    private static long[] scan(int[] x, int[] y, int n, int k, int i) {
        long top = -1;
        long bottom = 1;
        for (int q = 1; q <= SPAN; q++) {
            for (int p = -SPAN; p <= SPAN; p++) {
                if (gcd(p, q) != 1) {
                    continue;
                }
                long cost = i < 0 ? withSlope(x, y, n, k, p, q) : costThrough(x, y, n, k, i, p, q);
                if (top < 0 || cost * bottom < top * q) {
                    top = cost;
                    bottom = q;
                }
            }
        }
        long g = gcd(top, bottom);
        return new long[] {top / g, bottom / g};
    }

    /** By convexity the line is best iff no small turn or shift of it makes the cost sink. */
    static boolean pairIsBest(int[] x, int[] y, int n, int k, int i, int j) {
        long run = x[j] - x[i];
        long rise = y[j] - y[i];
        long sign = run < 0 ? -1 : 1;
        // The derivative is linear between the turns about a point on the line and straight shifts.
        for (int about = -21; about <= 20; about++) {
            for (int way = -1; way <= 1; way += 2) {
                long turn = about < -20 ? 0 : way;
                long shift = about < -20 ? way : (long) -way * about;
                long slope = 0;
                for (int t = 0; t < n; t++) {
                    long d = sign * (run * (y[t] - y[i]) - rise * (x[t] - x[i]));
                    long change = -turn * x[t] - shift;
                    slope += d > 0 ? k * change : d < 0 ? (k - 4) * change : one(k, change);
                }
                if (slope < 0) {
                    return false;
                }
            }
        }
        return true;
    }
}
