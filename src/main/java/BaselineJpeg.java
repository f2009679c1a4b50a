/**
 * A small grey picture that is stored with a loss that depends on the quality, and shown again from
 * what was stored, also when segments of it were lost.
 */
public final class BaselineJpeg {
    public static final int BAD_ARG = -1000000;

    private static final int SIDE = 16;
    private static final int PIXELS = 256;
    private static final int BLOCKS = 4;
    private static final int BLOCK_SIDE = 8;
    private static final int BLOCK_LEVELS = 64;
    private static final int LEVELS = 256;
    private static final int MIDDLE_GREY = 128;
    private static final int MAX_GREY = 255;
    private static final int MAX_SLOPE = 64;
    private static final int MAX_DIGIT = 3;
    private static final int MAX_QUALITY = 8;
    private static final int STEP_UNIT = 8192;
    private static final int SHOWN_SHIFT = 30;
    private static final long SHOWN_HALF = 536870912L;

    /** Pixel (x, y) is at 16 y + x. */
    private final int[] picture = new int[PIXELS];
    /** K(u, i) is at 8 u + i. */
    private final int[] waves = new int[BLOCK_LEVELS];
    /** The level of block b at (u, v) is at 64 b + 8 u + v; a lost level is held as 0. */
    private final int[] levels = new int[LEVELS];

    private int nextQuality = 1;
    private int nextInterval = BLOCKS;
    // What is stored keeps its own quality and interval: setting new ones must not change what is shown or lost.
    // Both are 1 or more at all times, as only values that were looked at are set: they may divide.
    private int storedQuality = 1;
    private int storedInterval = BLOCKS;

    public BaselineJpeg() {
        for (int k = 0; k < PIXELS; k++) {
            picture[k] = MIDDLE_GREY;
        }
        for (int u = 0; u < BLOCK_SIDE; u++) {
            for (int i = 0; i < BLOCK_SIDE; i++) {
                waves[BLOCK_SIDE * u + i] = waveAt((2 * i + 1) * u % 32);
            }
        }
    }

    public int put(int x, int y, int g) {
        if (!isPixel(x, y) || !isGrey(g)) {
            return BAD_ARG;
        }
        int before = picture[SIDE * y + x];
        picture[SIDE * y + x] = g;
        return before;
    }

    public int fill(int x0, int y0, int g) {
        if (!isPixel(x0, y0) || !isGrey(g)) {
            return BAD_ARG;
        }
        for (int y = y0; y < SIDE; y++) {
            for (int x = x0; x < SIDE; x++) {
                picture[SIDE * y + x] = g;
            }
        }
        return 0;
    }

    public int ramp(int base, int a, int b) {
        if (!isGrey(base) || !isSlope(a) || !isSlope(b)) {
            return BAD_ARG;
        }
        for (int y = 0; y < SIDE; y++) {
            for (int x = 0; x < SIDE; x++) {
                picture[SIDE * y + x] = nearestGrey(base + a * x + b * y);
            }
        }
        return 0;
    }

    public int weave(int s) {
        if (s < 0 || s > MAX_DIGIT) {
            return BAD_ARG;
        }
        for (int y = 0; y < SIDE; y++) {
            for (int x = 0; x < SIDE; x++) {
                if ((((x >> s) + (y >> s)) & 1) == 1) {
                    picture[SIDE * y + x] = MAX_GREY - picture[SIDE * y + x];
                }
            }
        }
        return 0;
    }

    public int pixel(int x, int y) {
        if (!isPixel(x, y)) {
            return BAD_ARG;
        }
        return picture[SIDE * y + x];
    }

    public int quality(int q) {
        if (q < 1 || q > MAX_QUALITY) {
            return BAD_ARG;
        }
        int before = nextQuality;
        nextQuality = q;
        return before;
    }

    public int interval(int r) {
        if (r < 1 || r > BLOCKS) {
            return BAD_ARG;
        }
        int before = nextInterval;
        nextInterval = r;
        return before;
    }

    public int store() {
        storedQuality = nextQuality;
        storedInterval = nextInterval;
        int count = 0;
        for (int b = 0; b < BLOCKS; b++) {
            storeBlock(b);
            count += countLevels(b);
        }
        return count;
    }

    public int lose(int b) {
        if (!isBlock(b)) {
            return BAD_ARG;
        }
        int segment = b / storedInterval;
        int count = 0;
        for (int other = 0; other < BLOCKS; other++) {
            if (other / storedInterval == segment) {
                count += countLevels(other);
                clearLevels(other);
            }
        }
        return count;
    }

    public int level(int b, int u, int v) {
        if (!isBlock(b) || !isInBlock(u, v)) {
            return BAD_ARG;
        }
        return levels[BLOCK_LEVELS * b + BLOCK_SIDE * u + v];
    }

    public int show(int x, int y) {
        if (!isPixel(x, y)) {
            return BAD_ARG;
        }
        return shownGrey(x, y);
    }

    public int difference() {
        int sum = 0;
        for (int y = 0; y < SIDE; y++) {
            for (int x = 0; x < SIDE; x++) {
                int gap = picture[SIDE * y + x] - shownGrey(x, y);
                sum += gap < 0 ? -gap : gap;
            }
        }
        return sum;
    }

    public int adopt() {
        int before = difference();
        for (int y = 0; y < SIDE; y++) {
            for (int x = 0; x < SIDE; x++) {
                picture[SIDE * y + x] = shownGrey(x, y);
            }
        }
        return before;
    }

    public int weight(int b) {
        if (!isBlock(b)) {
            return BAD_ARG;
        }
        return countLevels(b);
    }

    private static boolean isPixel(int x, int y) {
        return x >= 0 && x < SIDE && y >= 0 && y < SIDE;
    }

    private static boolean isInBlock(int u, int v) {
        return u >= 0 && u < BLOCK_SIDE && v >= 0 && v < BLOCK_SIDE;
    }

    private static boolean isBlock(int b) {
        return b >= 0 && b < BLOCKS;
    }

    private static boolean isGrey(int g) {
        return g >= 0 && g <= MAX_GREY;
    }

    private static boolean isSlope(int a) {
        return a >= -MAX_SLOPE && a <= MAX_SLOPE;
    }

    private static int nearestGrey(int g) {
        if (g < 0) {
            return 0;
        }
        return g > MAX_GREY ? MAX_GREY : g;
    }

    /** C(t) of the document. */
    private static int waveAt(int t) {
        if (t <= 8) {
            return quarterWave(t);
        }
        if (t <= 16) {
            return -quarterWave(16 - t);
        }
        if (t <= 24) {
            return -quarterWave(t - 16);
        }
        return quarterWave(32 - t);
    }

    /** c(t) of the document, for t from 0 to 8. */
    private static int quarterWave(int t) {
        switch (t) {
            case 0: return 64;
            case 1: return 63;
            case 2: return 59;
            case 3: return 53;
            case 4: return 45;
            case 5: return 36;
            case 6: return 24;
            case 7: return 12;
            default: return 0;
        }
    }

    /** D of the document, for the quality stored; 16384 or more, so it may divide. */
    private int stepAt(int u, int v) {
        return STEP_UNIT * storedQuality * (2 + u + v);
    }

    /** e(u) of the document. */
    private static int shareOf(int u) {
        return u == 0 ? 1 : 2;
    }

    private void storeBlock(int b) {
        for (int u = 0; u < BLOCK_SIDE; u++) {
            for (int v = 0; v < BLOCK_SIDE; v++) {
                int sum = waveSum(b, u, v);
                int step = stepAt(u, v);
                levels[BLOCK_LEVELS * b + BLOCK_SIDE * u + v] = roundedLevel(sum, step);
            }
        }
    }

    /** S of the document; at most 64 * 128 * 64 * 64 without its sign, so an int holds it, and twice it. */
    private int waveSum(int b, int u, int v) {
        int left = BLOCK_SIDE * (b % 2);
        int top = BLOCK_SIDE * (b / 2);
        int sum = 0;
        for (int j = 0; j < BLOCK_SIDE; j++) {
            for (int i = 0; i < BLOCK_SIDE; i++) {
                int grey = picture[SIDE * (top + j) + left + i] - MIDDLE_GREY;
                sum += grey * waves[BLOCK_SIDE * u + i] * waves[BLOCK_SIDE * v + j];
            }
        }
        return sum;
    }

    // The size is rounded without the sign, so that a half goes away from 0 on both sides.
    private static int roundedLevel(int sum, int step) {
        int size = sum < 0 ? -sum : sum;
        int rounded = (2 * size + step) / (2 * step);
        return sum < 0 ? -rounded : rounded;
    }

    private int countLevels(int b) {
        int count = 0;
        for (int k = 0; k < BLOCK_LEVELS; k++) {
            if (levels[BLOCK_LEVELS * b + k] != 0) {
                count++;
            }
        }
        return count;
    }

    private void clearLevels(int b) {
        for (int k = 0; k < BLOCK_LEVELS; k++) {
            levels[BLOCK_LEVELS * b + k] = 0;
        }
    }

    private int shownGrey(int x, int y) {
        int b = 2 * (y / BLOCK_SIDE) + x / BLOCK_SIDE;
        int i = x % BLOCK_SIDE;
        int j = y % BLOCK_SIDE;
        long sum = 0;
        for (int u = 0; u < BLOCK_SIDE; u++) {
            for (int v = 0; v < BLOCK_SIDE; v++) {
                long height = (long) levels[BLOCK_LEVELS * b + BLOCK_SIDE * u + v] * stepAt(u, v);
                int wave = waves[BLOCK_SIDE * u + i] * waves[BLOCK_SIDE * v + j];
                sum += shareOf(u) * shareOf(v) * height * wave;
            }
        }
        // A shift rounds down below 0 too, where a division would round up.
        int offset = (int) ((sum + SHOWN_HALF) >> SHOWN_SHIFT);
        return nearestGrey(MIDDLE_GREY + offset);
    }
}
