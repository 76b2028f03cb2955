/** Counts wrong answers; end() makes the test's exit code of them. */
final class Check {
    private static int wrong = 0;
    private static int looked = 0;

    private Check() {
    }

    static void same(String call, long got, long due) {
        looked++;
        if (got != due) {
            wrong++;
            System.out.println(call + " answered " + got + ", due is " + due);
        }
    }

    static void same(String call, boolean got, boolean due) {
        looked++;
        if (got != due) {
            wrong++;
            System.out.println(call + " answered " + got + ", due is " + due);
        }
    }

    /** A new object with the lean k and the points x0, y0, x1, y1 and so on. */
    static LeastDeviations with(int k, int... coordinates) {
        LeastDeviations o = new LeastDeviations();
        o.lean(k);
        for (int t = 0; t < coordinates.length; t += 2) {
            same("add while preparing", o.add(coordinates[t], coordinates[t + 1]), t / 2 + 1);
        }
        return o;
    }

    static void end() {
        System.out.println(looked + " answers, " + wrong + " not as due");
        if (wrong != 0 || looked == 0) {
            System.exit(1);
        }
    }
}
