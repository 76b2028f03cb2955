import java.util.function.ToIntFunction;

/** "An object is used for at most 512 calls after it has been made": the 512th is still answered. */
public final class CallsBoundTest {
    private static final int CALLS = 512;

    public static void main(String[] args) {
        everyMethodComesLast();
        refusedCallsComeLast();
        fullAllTheTime();
        laterCallsEnd();
        Check.end();
    }

    /** An object with 511 calls behind it: lean 3 and the points (0, 0), (1, 1), (3, 0). */
    private static LeastDeviations beforeTheLast() {
        LeastDeviations o = Check.with(3, 0, 0, 1, 1, 3, 0);
        int calls = 4;
        while (calls + 2 < CALLS) {
            Check.same("add as call " + (calls + 1), o.add(20, -20), 4);
            Check.same("drop as call " + (calls + 2), o.drop(3), 3);
            calls += 2;
        }
        Check.same("lean(4) as call 511", o.lean(4), false);
        return o;
    }

    private static void last(String call, ToIntFunction<LeastDeviations> asked, int due) {
        Check.same(call + " as call 512", asked.applyAsInt(beforeTheLast()), due);
    }

    private static void everyMethodComesLast() {
        last("add(5, 5)", o -> o.add(5, 5), 4);
        last("drop(0)", o -> o.drop(0), 2);
        last("lean(1)", o -> State.bit(o.lean(1)), 1);
        last("leastTop()", o -> o.leastTop(), 3);
        last("leastBottom()", o -> o.leastBottom(), 2);
        last("withSlope(-1, 2)", o -> o.withSlope(-1, 2), 3);
        last("bestSlope(-1, 2)", o -> State.bit(o.bestSlope(-1, 2)), 1);
        last("bestPair(1, 2)", o -> State.bit(o.bestPair(1, 2)), 1);
        last("throughTop(0)", o -> o.throughTop(0), 3);
        last("throughBottom(1)", o -> o.throughBottom(1), 2);
        last("points()", o -> o.points(), 3);
    }

    private static void refusedCallsComeLast() {
        last("add(21, 0)", o -> o.add(21, 0), LeastDeviations.BAD);
        last("drop(3)", o -> o.drop(3), LeastDeviations.BAD);
        last("lean(0)", o -> State.bit(o.lean(0)), 0);
        last("withSlope(1001, 1)", o -> o.withSlope(1001, 1), LeastDeviations.BAD);
        last("bestSlope(0, 41)", o -> State.bit(o.bestSlope(0, 41)), 0);
        last("bestPair(0, 3)", o -> State.bit(o.bestPair(0, 3)), 0);
        last("throughTop(3)", o -> o.throughTop(3), LeastDeviations.BAD);
        last("throughBottom(-1)", o -> o.throughBottom(-1), LeastDeviations.BAD);
    }

    private static void fullAllTheTime() {
        LeastDeviations o = new LeastDeviations();
        for (int call = 1; call <= CALLS; call++) {
            Check.same("add as call " + call, o.add(1, 1), call <= 8 ? call : LeastDeviations.FULL);
        }
    }

    /** Their answers are free, so none is looked at; but LANGUAGE.md's rule 7 lets no call throw. */
    private static void laterCallsEnd() {
        int[] given = {Integer.MIN_VALUE, -1001, -1, 0, 1, 7, 8, 40, 41, Integer.MAX_VALUE};
        LeastDeviations o = beforeTheLast();
        for (int round = 0; round < 100; round++) {
            for (int a : given) {
                for (int b : given) {
                    o.add(a, b);
                    o.withSlope(a, b);
                    o.bestSlope(a, b);
                    o.bestPair(a, b);
                }
                o.lean(a);
                o.leastTop();
                o.leastBottom();
                o.throughTop(a);
                o.throughBottom(a);
                o.points();
            }
            o.drop(given[round % given.length]);
        }
    }
}
