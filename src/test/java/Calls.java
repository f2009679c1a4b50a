/** A call as four numbers, the method and its arguments, so that one run can be made again on new objects. */
final class Calls {
    private static final String[] NAMES = {"put", "fill", "ramp", "weave", "pixel", "quality", "interval", "store",
        "lose", "level", "show", "difference", "adopt", "weight"};
    private static final int[] ARGUMENTS = {3, 3, 3, 1, 2, 1, 1, 0, 1, 3, 2, 0, 0, 1};
    private static final int[][] LEAST = {{0, 0, 0}, {0, 0, 0}, {0, -64, -64}, {0}, {0, 0}, {1}, {1}, {},
        {0}, {0, 0, 0}, {0, 0}, {}, {}, {0}};
    private static final int[][] GREATEST = {{15, 15, 255}, {15, 15, 255}, {255, 64, 64}, {3}, {15, 15}, {8}, {4}, {},
        {3}, {3, 7, 7}, {15, 15}, {}, {}, {3}};
    static final int METHODS = NAMES.length;

    private Calls() {
    }

    static int arguments(int method) {
        return ARGUMENTS[method];
    }

    static int least(int method, int argument) {
        return LEAST[method][argument];
    }

    static int greatest(int method, int argument) {
        return GREATEST[method][argument];
    }

    static int method(String name) {
        return java.util.Arrays.asList(NAMES).indexOf(name);
    }

    static int[] call(String name, int... arguments) {
        int[] call = new int[4];
        call[0] = method(name);
        System.arraycopy(arguments, 0, call, 1, arguments.length);
        return call;
    }

    static String text(int[] call) {
        StringBuilder text = new StringBuilder(NAMES[call[0]]).append('(');
        for (int k = 1; k <= ARGUMENTS[call[0]]; k++) {
            text.append(k > 1 ? ", " : "").append(call[k]);
        }
        return text.append(')').toString();
    }

    static int answer(BaselineJpeg x, int[] c) {
        switch (NAMES[c[0]]) {
            case "put": return x.put(c[1], c[2], c[3]);
            case "fill": return x.fill(c[1], c[2], c[3]);
            case "ramp": return x.ramp(c[1], c[2], c[3]);
            case "weave": return x.weave(c[1]);
            case "pixel": return x.pixel(c[1], c[2]);
            case "quality": return x.quality(c[1]);
            case "interval": return x.interval(c[1]);
            case "store": return x.store();
            case "lose": return x.lose(c[1]);
            case "level": return x.level(c[1], c[2], c[3]);
            case "show": return x.show(c[1], c[2]);
            case "difference": return x.difference();
            case "adopt": return x.adopt();
            default: return x.weight(c[1]);
        }
    }

    static int answer(Reference x, int[] c) {
        switch (NAMES[c[0]]) {
            case "put": return x.put(c[1], c[2], c[3]);
            case "fill": return x.fill(c[1], c[2], c[3]);
            case "ramp": return x.ramp(c[1], c[2], c[3]);
            case "weave": return x.weave(c[1]);
            case "pixel": return x.pixel(c[1], c[2]);
            case "quality": return x.quality(c[1]);
            case "interval": return x.interval(c[1]);
            case "store": return x.store();
            case "lose": return x.lose(c[1]);
            case "level": return x.level(c[1], c[2], c[3]);
            case "show": return x.show(c[1], c[2]);
            case "difference": return x.difference();
            case "adopt": return x.adopt();
            default: return x.weight(c[1]);
        }
    }
}
