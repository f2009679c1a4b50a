import java.util.ArrayList;
import java.util.List;

/**
 * Each "BAD_ARG if .. is not .." of promises 2 to 8, 10 to 12 and 15: each argument at both of its ends, just inside and
 * just outside, and as far out as an int goes; and "No call ever throws. A refused call .. changes nothing."
 */
public final class ArgumentEndsTest {
    private static final int MIN = Integer.MIN_VALUE;
    private static final int MAX = Integer.MAX_VALUE;

    /** The states that a refusal must leave as they are: new, stored with all set, and partly lost with others set since. */
    private static final List<List<int[]>> STATES = List.of(
        List.of(),
        List.of(Calls.call("ramp", 30, 11, -4), Calls.call("quality", 8), Calls.call("interval", 1), Calls.call("store")),
        List.of(Calls.call("ramp", 200, -9, 7), Calls.call("weave", 1), Calls.call("quality", 2), Calls.call("interval", 3),
            Calls.call("store"), Calls.call("lose", 3), Calls.call("weave", 0), Calls.call("quality", 5),
            Calls.call("interval", 2)));

    public static void main(String[] args) {
        promise(2, "put", "x", 0, 15, "y", 0, 15, "g", 0, 255);
        promise(3, "fill", "x0", 0, 15, "y0", 0, 15, "g", 0, 255);
        promise(4, "ramp", "base", 0, 255, "a", -64, 64, "b", -64, 64);
        promise(5, "weave", "s", 0, 3);
        promise(6, "pixel", "x", 0, 15, "y", 0, 15);
        promise(7, "quality", "q", 1, 8);
        promise(8, "interval", "r", 1, 4);
        promise(10, "lose", "b", 0, 3);
        promise(11, "level", "b", 0, 3, "u", 0, 7, "v", 0, 7);
        promise(12, "show", "x", 0, 15, "y", 0, 15);
        promise(15, "weight", "b", 0, 3);
        Check.end();
    }

    /** Each argument is its name, its lower end and its upper end. */
    private static void promise(int number, String method, Object... ends) {
        int count = ends.length / 3;
        int[] lower = new int[count];
        int[] upper = new int[count];
        for (int k = 0; k < count; k++) {
            lower[k] = (Integer) ends[3 * k + 1];
            upper[k] = (Integer) ends[3 * k + 2];
        }
        for (int k = 0; k < count; k++) {
            int at = k;
            String name = number + ": " + method + ", " + ends[3 * k];
            Check.test(name + " at its lower end", () -> taken(method, lower, upper, at, lower[at]));
            Check.test(name + " just inside its lower end", () -> taken(method, lower, upper, at, lower[at] + 1));
            Check.test(name + " just below its lower end", () -> refused(method, lower, upper, at, lower[at] - 1));
            Check.test(name + " at its upper end", () -> taken(method, lower, upper, at, upper[at]));
            Check.test(name + " just inside its upper end", () -> taken(method, lower, upper, at, upper[at] - 1));
            Check.test(name + " just above its upper end", () -> refused(method, lower, upper, at, upper[at] + 1));
            Check.test(name + " as far down as an int goes", () -> refused(method, lower, upper, at, MIN, MIN + 1));
            Check.test(name + " as far up as an int goes", () -> refused(method, lower, upper, at, MAX, MAX - 1));
            Check.test(name + " far out, with the last digits of an end",
                () -> allRefused(method, lower, upper, at, farWithDigitsOf(lower[at], upper[at])));
        }
        Check.test(number + ": " + method + ", several arguments outside", () -> severalOutside(method, lower, upper));
    }

    /** Numbers that a mask, a cast to fewer bits or a product that wraps around would bring back inside. */
    private static int[] farWithDigitsOf(int lower, int upper) {
        int[] far = new int[48];
        for (int digit = 8; digit < 32; digit++) {
            far[2 * digit - 16] = lower + (1 << digit);
            far[2 * digit - 15] = upper + (1 << digit);
        }
        return far;
    }

    /** The other arguments at each of their ends in turn: one end's test must not hide behind another's. */
    private static List<int[]> callsWith(String method, int[] lower, int[] upper, int at, int value) {
        List<int[]> calls = new ArrayList<>();
        for (int ends = 0; ends < 1 << lower.length; ends++) {
            if ((ends >> at & 1) == 1) {
                continue;
            }
            int[] arguments = new int[lower.length];
            for (int k = 0; k < lower.length; k++) {
                arguments[k] = (ends >> k & 1) == 0 ? lower[k] : upper[k];
            }
            arguments[at] = value;
            calls.add(Calls.call(method, arguments));
        }
        return calls;
    }

    private static void taken(String method, int[] lower, int[] upper, int at, int value) {
        for (int[] call : callsWith(method, lower, upper, at, value)) {
            for (List<int[]> state : STATES) {
                Reference due = new Reference();
                for (int[] earlier : state) {
                    Calls.answer(due, earlier);
                }
                int got = answerAfter(state, call);
                Check.holds(Calls.text(call) + " is not refused", got != -1000000);
                Check.due(Calls.text(call), got, Calls.answer(due, call));
                List<int[]> run = new ArrayList<>(state);
                run.add(call);
                WholeState.check("after " + Calls.text(call), run);
            }
        }
    }

    private static void refused(String method, int[] lower, int[] upper, int at, int... values) {
        for (int value : values) {
            Check.holds(value + " is outside", value < lower[at] || value > upper[at]);
            for (int[] call : callsWith(method, lower, upper, at, value)) {
                changeNothing(List.of(call));
            }
        }
    }

    /** One run of them all, as they are too many to look at the whole state after each. */
    private static void allRefused(String method, int[] lower, int[] upper, int at, int[] values) {
        List<int[]> calls = new ArrayList<>();
        for (int value : values) {
            Check.holds(value + " is outside", value < lower[at] || value > upper[at]);
            calls.addAll(callsWith(method, lower, upper, at, value));
        }
        changeNothing(calls);
    }

    private static void severalOutside(String method, int[] lower, int[] upper) {
        int[][] outside = {{MIN, MIN, MIN}, {MAX, MAX, MAX}, {MIN, MAX, MIN}, {MAX, MIN, MAX}, {-1000, -1000, -1000},
            {1000, 1000, 1000}};
        List<int[]> calls = new ArrayList<>();
        for (int[] values : outside) {
            calls.add(Calls.call(method, java.util.Arrays.copyOf(values, lower.length)));
        }
        int[] below = new int[lower.length];
        int[] above = new int[lower.length];
        for (int k = 0; k < lower.length; k++) {
            below[k] = lower[k] - 1;
            above[k] = upper[k] + 1;
        }
        calls.add(Calls.call(method, below));
        calls.add(Calls.call(method, above));
        changeNothing(calls);
    }

    private static void changeNothing(List<int[]> calls) {
        for (List<int[]> state : STATES) {
            for (int[] call : calls) {
                Check.refused(Calls.text(call), answerAfter(state, call));
            }
            List<int[]> run = new ArrayList<>(state);
            run.addAll(calls);
            String all = calls.size() == 1 ? Calls.text(calls.get(0)) : Calls.text(calls.get(0)) + " and others";
            WholeState.check("after the refused " + all, run, state);
        }
    }

    private static int answerAfter(List<int[]> state, int[] call) {
        BaselineJpeg x = new BaselineJpeg();
        for (int[] earlier : state) {
            Calls.answer(x, earlier);
        }
        return Calls.answer(x, call);
    }
}
