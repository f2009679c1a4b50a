import java.io.IOException;
import java.nio.file.Files;
import java.nio.file.Path;
import java.util.ArrayList;
import java.util.List;
import java.util.Set;
import java.util.TreeSet;
import java.util.regex.Matcher;
import java.util.regex.Pattern;

/** README.md: each method of the face is told there, and each call of its example answers what is said beside it. */
public final class ReadmeTest {
    private static final Pattern ROW = Pattern.compile("\\| `(\\w+\\([^)]*\\))` \\|.*");
    private static final Pattern CALL = Pattern.compile("picture\\.(\\w+)\\(([^)]*)\\); *// (BAD_ARG|-?\\d+)(,? .*)?");
    private static final List<String> FACE = List.of("put(x, y, g)", "fill(x0, y0, g)", "ramp(base, a, b)", "weave(s)",
        "pixel(x, y)", "quality(q)", "interval(r)", "store()", "lose(b)", "level(b, u, v)", "show(x, y)",
        "difference()", "adopt()", "weight(b)");

    public static void main(String[] args) throws IOException {
        List<String> lines = Files.readAllLines(Path.of("README.md"));
        Check.test("README.md tells each method of the face once, in the document's order", () -> table(lines));
        Check.test("README.md: the example answers as it says, and uses every method", () -> example(lines));
        Check.test("README.md tells what a refused call answers", () -> told(lines, "" + BaselineJpeg.BAD_ARG));
        Check.test("README.md tells how to run the tests", () -> told(lines, ".ci/run"));
        Check.end();
    }

    private static void table(List<String> lines) {
        List<String> seen = new ArrayList<>();
        for (String line : lines) {
            Matcher row = ROW.matcher(line);
            if (row.matches()) {
                seen.add(row.group(1));
            }
        }
        Check.holds("the rows are those of the face: " + seen, seen.equals(FACE));
    }

    private static void example(List<String> lines) {
        BaselineJpeg picture = new BaselineJpeg();
        Set<String> used = new TreeSet<>();
        for (String line : lines) {
            if (!line.startsWith("picture.")) {
                continue;
            }
            Matcher call = CALL.matcher(line);
            Check.holds("a call with its answer: " + line, call.matches());
            used.add(call.group(1));
            int[] numbers = Calls.call(call.group(1), numbers(call.group(2)));
            String want = call.group(3);
            Check.due(line, Calls.answer(picture, numbers), want.equals("BAD_ARG") ? -1000000L : Long.parseLong(want));
        }
        Check.due("methods used in the example", used.size(), Calls.METHODS);
    }

    private static int[] numbers(String text) {
        List<Integer> numbers = new ArrayList<>();
        for (String part : text.split(", *")) {
            if (!part.isEmpty()) {
                numbers.add(Integer.valueOf(part));
            }
        }
        return numbers.stream().mapToInt(Integer::intValue).toArray();
    }

    private static void told(List<String> lines, String what) {
        Check.holds(what + " is told", lines.stream().anyMatch(line -> line.contains(what)));
    }
}
