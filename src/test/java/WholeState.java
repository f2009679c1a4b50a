import java.util.List;

/** Compares all that a run leaves behind with the reference, on a new object for each part: 512 calls is an object's end. */
final class WholeState {
    private WholeState() {
    }

    static void check(String what, List<int[]> run) {
        check(what, run, run);
    }

    /** The reference makes the due run instead: the run without a call that must change nothing. */
    static void check(String what, List<int[]> run, List<int[]> dueRun) {
        Reference due = new Reference();
        for (int[] call : dueRun) {
            Calls.answer(due, call);
        }
        BaselineJpeg picture = replay(run);
        BaselineJpeg shown = replay(run);
        BaselineJpeg levels = replay(run);
        for (int k = 0; k < 256; k++) {
            one(what, picture, due, Calls.call("pixel", k % 16, k / 16));
            one(what, shown, due, Calls.call("show", k % 16, k / 16));
            one(what, levels, due, Calls.call("level", k / 64, k / 8 % 8, k % 8));
        }
        BaselineJpeg rest = replay(run);
        for (int b = 0; b < 4; b++) {
            one(what, rest, due, Calls.call("weight", b));
        }
        one(what, rest, due, Calls.call("difference"));
        // Last, as they change the state: which segments there are, what is set, and that what was set is used.
        one(what, rest, due, Calls.call("lose", 1));
        one(what, rest, due, Calls.call("difference"));
        one(what, rest, due, Calls.call("store"));
        one(what, rest, due, Calls.call("lose", 2));
        one(what, rest, due, Calls.call("quality", 3));
        one(what, rest, due, Calls.call("interval", 3));
    }

    private static BaselineJpeg replay(List<int[]> run) {
        BaselineJpeg x = new BaselineJpeg();
        for (int[] call : run) {
            Calls.answer(x, call);
        }
        return x;
    }

    private static void one(String what, BaselineJpeg x, Reference due, int[] call) {
        int want = Calls.answer(due, call);
        Check.due(what + ", then " + Calls.text(call), Calls.answer(x, call), want);
    }
}
