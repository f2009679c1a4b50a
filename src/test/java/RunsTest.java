import java.util.ArrayList;
import java.util.List;

/** Promises 1 to 15 together: many runs, right and wrong arguments mixed, beside the reference. Every time the same runs. */
public final class RunsTest {
    private static final int[] FAR = {Integer.MIN_VALUE, Integer.MAX_VALUE, -1000000, 1 << 30, 256, -256, 32, -32};
    private static long seed;
    private static int cutAtBlack = 0;
    private static int cutAtWhite = 0;
    private static int halves = 0;

    public static void main(String[] args) {
        for (int run = 1; run <= 150; run++) {
            seed = run;
            longRun(run);
        }
        for (int run = 1; run <= 300; run++) {
            seed = 1000 + run;
            shortRun(run);
        }
        Check.holds("some grey was cut at black", cutAtBlack > 0);
        Check.holds("some grey was cut at white", cutAtWhite > 0);
        Check.holds("some level was a half before it was rounded", halves > 0);
        Check.end();
    }

    private static void longRun(int run) {
        BaselineJpeg x = new BaselineJpeg();
        Reference due = new Reference();
        for (int k = 0; k < 512; k++) {
            int[] call = anyCall(8);
            Check.due("long run " + run + ", call " + k + ": " + Calls.text(call),
                Calls.answer(x, call), Calls.answer(due, call));
        }
        cutAtBlack += due.cutAtBlack;
        cutAtWhite += due.cutAtWhite;
        halves += due.halves;
    }

    private static void shortRun(int run) {
        List<int[]> calls = new ArrayList<>();
        int length = 1 + next(40);
        for (int k = 0; k < length; k++) {
            calls.add(anyCall(12));
        }
        WholeState.check("short run " + run, calls);
    }

    private static int[] anyCall(int oneInWrong) {
        int[] call = new int[4];
        call[0] = next(Calls.METHODS);
        for (int k = 0; k < Calls.arguments(call[0]); k++) {
            int least = Calls.least(call[0], k);
            int greatest = Calls.greatest(call[0], k);
            call[k + 1] = next(oneInWrong * 3) == 0 ? edge(least, greatest) : least + next(greatest - least + 1);
        }
        return call;
    }

    private static int edge(int least, int greatest) {
        int[] edges = {least - 1, greatest + 1, least, greatest};
        int k = next(edges.length + FAR.length);
        return k < edges.length ? edges[k] : FAR[k - edges.length];
    }

    private static int next(int bound) {
        seed = seed * 6364136223846793005L + 1442695040888963407L;
        return (int) Long.remainderUnsigned(seed >>> 33, bound);
    }
}
