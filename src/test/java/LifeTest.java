import java.util.ArrayList;
import java.util.List;

/** "An object is used for at most 512 calls after it has been made": the last of them answers as the first does. */
public final class LifeTest {
    private static final int CALLS = 512;

    public static void main(String[] args) {
        Check.test("the first call, of each method", () -> lastOfEach(1));
        Check.test("the 511th call, of each method", () -> lastOfEach(CALLS - 1));
        Check.test("the 512th call, of each method", () -> lastOfEach(CALLS));
        Check.test("512 times put", () -> sameCall(Calls.call("put", 15, 15, 255)));
        Check.test("512 times fill", () -> sameCall(Calls.call("fill", 0, 0, 255)));
        Check.test("512 times ramp", () -> sameCall(Calls.call("ramp", 255, -64, 64)));
        Check.test("512 times weave", () -> sameCall(Calls.call("weave", 3)));
        Check.test("512 times pixel", () -> sameCall(Calls.call("pixel", 15, 15)));
        Check.test("512 times quality", () -> sameCall(Calls.call("quality", 8)));
        Check.test("512 times interval", () -> sameCall(Calls.call("interval", 1)));
        Check.test("512 times store", () -> sameCall(Calls.call("store")));
        Check.test("512 times lose", () -> sameCall(Calls.call("lose", 3)));
        Check.test("512 times level", () -> sameCall(Calls.call("level", 3, 7, 7)));
        Check.test("512 times show", () -> sameCall(Calls.call("show", 15, 15)));
        Check.test("512 times difference", () -> sameCall(Calls.call("difference")));
        Check.test("512 times adopt", () -> sameCall(Calls.call("adopt")));
        Check.test("512 times weight", () -> sameCall(Calls.call("weight", 3)));
        Check.test("511 refused calls, then one that is not", LifeTest::refusedCalls);
        Check.test("512 calls of store, loss and adopt in turn", LifeTest::lossesInTurn);
        Check.end();
    }

    /** Calls that draw, store and lose, ending so that something is stored, lost and set. */
    private static List<int[]> earlier(int length) {
        int[][] round = {Calls.call("ramp", 40, 9, -3), Calls.call("weave", 1), Calls.call("quality", 2),
            Calls.call("interval", 1), Calls.call("store"), Calls.call("lose", 2), Calls.call("put", 8, 0, 255),
            Calls.call("quality", 7), Calls.call("fill", 15, 0, 3), Calls.call("interval", 3)};
        List<int[]> calls = new ArrayList<>();
        for (int k = 0; k < length; k++) {
            calls.add(round[k % round.length]);
        }
        return calls;
    }

    private static void lastOfEach(int number) {
        int[][] last = {Calls.call("put", 8, 0, 1), Calls.call("fill", 0, 0, 1), Calls.call("ramp", 1, 1, 1),
            Calls.call("weave", 0), Calls.call("pixel", 8, 0), Calls.call("quality", 1), Calls.call("interval", 1),
            Calls.call("store"), Calls.call("lose", 0), Calls.call("level", 1, 0, 0), Calls.call("show", 8, 0),
            Calls.call("difference"), Calls.call("adopt"), Calls.call("weight", 3), Calls.call("put", 16, 0, 0)};
        for (int[] call : last) {
            run(earlier(number - 1), call);
        }
    }

    private static void sameCall(int[] call) {
        List<int[]> calls = new ArrayList<>();
        for (int k = 1; k < CALLS; k++) {
            calls.add(call);
        }
        run(calls, call);
    }

    private static void refusedCalls() {
        int[][] wrong = {Calls.call("put", 0, 0, 256), Calls.call("ramp", 0, 65, 0), Calls.call("weave", 4),
            Calls.call("interval", 0), Calls.call("quality", 0), Calls.call("lose", -1), Calls.call("level", 0, 8, 0)};
        List<int[]> calls = new ArrayList<>();
        for (int k = 1; k < CALLS; k++) {
            calls.add(wrong[k % wrong.length]);
        }
        run(calls, Calls.call("pixel", 0, 0));
        run(calls, Calls.call("quality", 8));
        run(calls, Calls.call("interval", 4));
        run(calls, Calls.call("difference"));
    }

    private static void lossesInTurn() {
        int[][] round = {Calls.call("store"), Calls.call("lose", 1), Calls.call("adopt"), Calls.call("weave", 2),
            Calls.call("interval", 2), Calls.call("put", 3, 4, 200), Calls.call("store"), Calls.call("difference")};
        List<int[]> calls = new ArrayList<>();
        for (int k = 1; k < CALLS; k++) {
            calls.add(round[k % round.length]);
        }
        run(calls, Calls.call("store"));
    }

    private static void run(List<int[]> calls, int[] last) {
        BaselineJpeg x = new BaselineJpeg();
        Reference due = new Reference();
        for (int[] call : calls) {
            Check.due(Calls.text(call), Calls.answer(x, call), Calls.answer(due, call));
        }
        Check.due(Calls.text(last) + " as call " + (calls.size() + 1), Calls.answer(x, last), Calls.answer(due, last));
    }
}
