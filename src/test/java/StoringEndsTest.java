/** The boundary cases of storing: the terms BLOCK, WAVES and LEVEL, and promises 9, 11 and 15 at their ends. */
public final class StoringEndsTest {
    /** K(u, i), worked out by hand from c(0) to c(8); row u, column i. */
    private static final int[][] K = {
        {64, 64, 64, 64, 64, 64, 64, 64},
        {63, 53, 36, 12, -12, -36, -53, -63},
        {59, 24, -24, -59, -59, -24, 24, 59},
        {53, -12, -63, -36, 36, 63, 12, -53},
        {45, -45, -45, 45, 45, -45, -45, 45},
        {36, -63, 12, 53, -53, -12, 63, -36},
        {24, -59, 59, -24, -24, 59, -59, 24},
        {12, -36, 53, -63, 63, -53, 36, -12}};

    public static void main(String[] args) {
        Check.test("BLOCK 0: x 0 to 7, y 0 to 7", () -> block(0, 0, 7, 0, 7));
        Check.test("BLOCK 1: x 8 to 15, y 0 to 7", () -> block(1, 8, 15, 0, 7));
        Check.test("BLOCK 2: x 0 to 7, y 8 to 15", () -> block(2, 0, 7, 8, 15));
        Check.test("BLOCK 3: x 8 to 15, y 8 to 15", () -> block(3, 8, 15, 8, 15));
        waves();
        Check.test("WAVES: K(u, i) for all u and i, by columns", StoringEndsTest::wavesByColumns);
        Check.test("WAVES: K(v, j) for all v and j, by rows", StoringEndsTest::wavesByRows);
        Check.test("LEVEL: above 0 if S is", () -> levelOfPixel(1, 132, 1));
        Check.test("LEVEL: below 0 if S is", () -> levelOfPixel(1, 124, -1));
        Check.test("LEVEL: 0 if S is 0", StoringEndsTest::levelOfZero);
        for (int quality = 1; quality <= 8; quality++) {
            int q = quality;
            Check.test("LEVEL: a half counts as 1, quality " + q, () -> levelOfPixel(q, 128 + 2 * q, 1));
            Check.test("LEVEL: a half below 0 counts as -1, quality " + q, () -> levelOfPixel(q, 128 - 2 * q, -1));
            Check.test("LEVEL: less than a half is 0, quality " + q, () -> levelOfPixel(q, 128 + 2 * q - 1, 0));
            Check.test("LEVEL: less than a half below 0 is 0, quality " + q, () -> levelOfPixel(q, 128 - 2 * q + 1, 0));
            Check.test("LEVEL: 1 and a half is 2, quality " + q, () -> levelOfPixel(q, 128 + 6 * q, 2));
            Check.test("LEVEL: -1 and a half is -2, quality " + q, () -> levelOfPixel(q, 128 - 6 * q, -2));
            Check.test("LEVEL: less than 1 and a half is 1, quality " + q, () -> levelOfPixel(q, 128 + 6 * q - 1, 1));
            Check.test("LEVEL: less than 1 and a half below 0 is -1, quality " + q, () -> levelOfPixel(q, 128 - 6 * q + 1, -1));
        }
        Check.test("LEVEL: the least S of all, quality 1", () -> levelOfEven(1, 0, -2048));
        Check.test("LEVEL: the least S of all, quality 8", () -> levelOfEven(8, 0, -256));
        Check.test("LEVEL: the greatest S at (0, 0), quality 1", () -> levelOfEven(1, 255, 2032));
        Check.test("LEVEL: the greatest S at (0, 0), quality 8", () -> levelOfEven(8, 255, 254));
        Check.test("LEVEL: the greatest and the least S at (7, 7), quality 1", () -> levelsAtLast(1, 105));
        Check.test("LEVEL: the greatest and the least S at (7, 7), quality 8", () -> levelsAtLast(8, 13));
        Check.test("LEVEL: the greatest and the least S at every (u, v)", StoringEndsTest::extremesEverywhere);
        Check.test("9: a picture of 128 has no level that is not 0", StoringEndsTest::storeOfNothing);
        Check.test("9: a picture that is too faint has none either", StoringEndsTest::storeOfTooFaint);
        Check.test("9: all 256 levels are not 0", StoringEndsTest::storeOfAll);
        Check.test("9: levels below 0 count too", StoringEndsTest::storeCountsBelowZero);
        Check.test("9: storing again stores the picture as it is now", StoringEndsTest::storeAgain);
        Check.test("11: the first and the last level of the first and the last block", StoringEndsTest::levelsAtEnds);
        Check.test("11: a lost level is 0, the others stay", StoringEndsTest::levelWhenLost);
        Check.test("15: none and all of a block's levels", StoringEndsTest::weightEnds);
        Check.test("15: of the block alone, also beside one that is lost", StoringEndsTest::weightBesideLost);
        Check.end();
    }

    /** One pixel leaves levels in its own block alone: the block is told from all 256 pixels. */
    private static void block(int b, int left, int right, int top, int bottom) {
        for (int k = 0; k < 256; k++) {
            int px = k % 16;
            int py = k / 16;
            BaselineJpeg x = new BaselineJpeg();
            x.put(px, py, 255);
            x.store();
            boolean inside = px >= left && px <= right && py >= top && py <= bottom;
            Check.due("level(" + b + ", 0, 0) of the pixel (" + px + ", " + py + ")", x.level(b, 0, 0), inside ? 32 : 0);
            Check.holds("weight(" + b + ") of the pixel (" + px + ", " + py + ")", x.weight(b) > 0 == inside);
            if (inside) {
                pixelInBlock(x, b, px - left, py - top);
            }
        }
    }

    /** p(i, j) is i columns right and j rows down, so u goes with i and v with j. */
    private static void pixelInBlock(BaselineJpeg x, int b, int i, int j) {
        for (int k = 0; k < 64; k++) {
            int u = k / 8;
            int v = k % 8;
            Check.due("level(" + b + ", " + u + ", " + v + ") of p(" + i + ", " + j + ")", x.level(b, u, v),
                levelOf(127 * K[u][i] * K[v][j], 8192 * (2 + u + v)));
        }
    }

    /** The nearest whole number to s / d, a half away from 0: counted up, not divided as in the program. */
    private static int levelOf(int s, int d) {
        int size = 0;
        while (2L * Math.abs((long) s) >= (2L * size + 1) * d) {
            size++;
        }
        return s < 0 ? -size : size;
    }

    /** For each range of t: its first and last t that some (2 i + 1) u reaches (8, 16 and 24 are not reached), and c there. */
    private static void waves() {
        Check.test("WAVES: C(0) = c(0), the first of t <= 8", () -> wave(0, 0, 5, 64));
        Check.test("WAVES: C(1) = c(1)", () -> wave(1, 1, 0, 63));
        Check.test("WAVES: C(7) = c(7), the last of t <= 8", () -> wave(7, 7, 0, 12));
        Check.test("WAVES: C(9) = -c(7), the first of 9 <= t <= 16", () -> wave(9, 3, 1, -12));
        Check.test("WAVES: C(12) = -c(4)", () -> wave(12, 4, 1, -45));
        Check.test("WAVES: C(15) = -c(1), the last of 9 <= t <= 16", () -> wave(15, 1, 7, -63));
        Check.test("WAVES: C(17) = -c(1), the first of 17 <= t <= 24", () -> wave(17, 7, 3, -63));
        Check.test("WAVES: C(20) = -c(4)", () -> wave(20, 4, 2, -45));
        Check.test("WAVES: C(23) = -c(7), the last of 17 <= t <= 24", () -> wave(23, 5, 5, -12));
        Check.test("WAVES: C(25) = c(7), the first of t >= 25", () -> wave(25, 5, 2, 12));
        Check.test("WAVES: C(28) = c(4)", () -> wave(28, 4, 3, 45));
        Check.test("WAVES: C(31) = c(1), the last of t >= 25", () -> wave(31, 7, 4, 63));
        Check.test("WAVES: the remainder by 32 where 15 * 7 = 105 is 9", () -> wave(9, 7, 7, -12));
        Check.test("WAVES: the remainder by 32 where 11 * 3 = 33 is 1", () -> wave(1, 3, 5, 63));
    }

    private static void wave(int t, int u, int i, int k) {
        Check.due("t for (" + u + ", " + i + ")", (2 * i + 1) * u % 32, t);
        BaselineJpeg x = new BaselineJpeg();
        for (int j = 0; j < 8; j++) {
            x.put(i, j, 255);
        }
        x.store();
        Check.due("level(0, " + u + ", 0)", x.level(0, u, 0), levelOf(127 * 8 * 64 * k, 8192 * (2 + u)));
    }

    /** Every grey in a column: a K that is off by one would round to another level at some of them. */
    private static void wavesByColumns() {
        for (int i = 0; i < 8; i++) {
            for (int g = 0; g <= 255; g++) {
                BaselineJpeg x = new BaselineJpeg();
                for (int j = 0; j < 8; j++) {
                    x.put(i, j, g);
                }
                x.store();
                for (int u = 0; u < 8; u++) {
                    Check.due("level(0, " + u + ", 0), column " + i + " of " + g, x.level(0, u, 0),
                        levelOf((g - 128) * 8 * 64 * K[u][i], 8192 * (2 + u)));
                }
            }
        }
    }

    private static void wavesByRows() {
        for (int j = 0; j < 8; j++) {
            for (int g = 0; g <= 255; g++) {
                BaselineJpeg x = new BaselineJpeg();
                for (int i = 0; i < 8; i++) {
                    x.put(8 + i, 8 + j, g);
                }
                x.store();
                for (int v = 0; v < 8; v++) {
                    Check.due("level(3, 0, " + v + "), row " + j + " of " + g, x.level(3, 0, v),
                        levelOf((g - 128) * 8 * 64 * K[v][j], 8192 * (2 + v)));
                }
            }
        }
    }

    /** One pixel of 128 + n: S at (0, 0) is 4096 n, and D is 4 q times 4096. */
    private static void levelOfPixel(int q, int grey, int level) {
        for (int b = 0; b < 4; b++) {
            BaselineJpeg x = new BaselineJpeg();
            x.quality(q);
            x.put(8 * (b % 2) + 3, 8 * (b / 2) + 5, grey);
            x.store();
            Check.due("level(" + b + ", 0, 0) of one pixel " + grey, x.level(b, 0, 0), level);
        }
    }

    /** Pixels above and below 128 that cancel out: S is 0 at (0, 0), and at (u, v) with even u for a left-right pair. */
    private static void levelOfZero() {
        BaselineJpeg x = new BaselineJpeg();
        x.put(0, 0, 228);
        x.put(7, 0, 28);
        Check.holds("store() finds levels", x.store() > 0);
        Check.due("level(0, 0, 0)", x.level(0, 0, 0), 0);
        Check.due("level(0, 2, 0)", x.level(0, 2, 0), 0);
        Check.due("level(0, 6, 1)", x.level(0, 6, 1), 0);
        Check.due("level(0, 1, 0), 200 * 63 * 64 / 24576", x.level(0, 1, 0), 33);
    }

    private static void levelOfEven(int q, int grey, int level) {
        BaselineJpeg x = new BaselineJpeg();
        x.quality(q);
        x.fill(0, 0, grey);
        Check.due("store()", x.store(), 4);
        for (int b = 0; b < 4; b++) {
            Check.due("level(" + b + ", 0, 0)", x.level(b, 0, 0), level);
        }
    }

    /** S is 255 * 53792 or less that, 53792 being half of 328 * 328; D is 131072 q. */
    private static void levelsAtLast(int q, int size) {
        Check.due("level(0, 7, 7) at its greatest", extreme(q, 7, 7, 255, 0).level(0, 7, 7), size);
        Check.due("level(0, 7, 7) at its least", extreme(q, 7, 7, 0, 255).level(0, 7, 7), -size);
    }

    private static void extremesEverywhere() {
        for (int q = 1; q <= 8; q += 7) {
            for (int k = 0; k < 64; k++) {
                int u = k / 8;
                int v = k % 8;
                int d = 8192 * q * (2 + u + v);
                Check.due("level(0, " + u + ", " + v + ") at its greatest", extreme(q, u, v, 255, 0).level(0, u, v),
                    levelOf(extremeSum(u, v, 255, 0), d));
                Check.due("level(0, " + u + ", " + v + ") at its least", extreme(q, u, v, 0, 255).level(0, u, v),
                    levelOf(extremeSum(u, v, 0, 255), d));
            }
        }
    }

    private static BaselineJpeg extreme(int q, int u, int v, int whereAbove, int whereBelow) {
        BaselineJpeg x = new BaselineJpeg();
        x.quality(q);
        for (int k = 0; k < 64; k++) {
            x.put(k % 8, k / 8, K[u][k % 8] * K[v][k / 8] > 0 ? whereAbove : whereBelow);
        }
        x.store();
        return x;
    }

    private static int extremeSum(int u, int v, int whereAbove, int whereBelow) {
        int sum = 0;
        for (int k = 0; k < 64; k++) {
            int wave = K[u][k % 8] * K[v][k / 8];
            sum += ((wave > 0 ? whereAbove : whereBelow) - 128) * wave;
        }
        return sum;
    }

    private static void storeOfNothing() {
        for (int q = 1; q <= 8; q++) {
            BaselineJpeg x = new BaselineJpeg();
            x.quality(q);
            Check.due("store() of a new picture", x.store(), 0);
            x.fill(0, 0, 9);
            x.fill(0, 0, 128);
            Check.due("store() of a picture of 128 again", x.store(), 0);
        }
    }

    private static void storeOfTooFaint() {
        BaselineJpeg x = new BaselineJpeg();
        x.put(0, 0, 129);
        x.put(15, 15, 127);
        Check.due("store()", x.store(), 0);
        Check.due("weight(0)", x.weight(0), 0);
        Check.due("difference()", x.difference(), 2);
        x.put(0, 0, 130);
        Check.due("store() of one more", x.store(), 1);
    }

    /** A picture without order, all of whose levels are not 0. */
    private static BaselineJpeg fullPicture() {
        BaselineJpeg x = new BaselineJpeg();
        for (int k = 0; k < 256; k++) {
            int px = k % 16;
            int py = k / 16;
            x.put(px, py, 9 * px * px * px + 36 * py * py * py + 324 * px * py & 255);
        }
        return x;
    }

    private static void storeOfAll() {
        BaselineJpeg x = fullPicture();
        Check.due("store()", x.store(), 256);
        Check.due("lose(2), all of them", x.lose(2), 256);
        Check.due("store() again", x.store(), 256);
        x.interval(1);
        Check.due("store() with the interval 1", x.store(), 256);
        for (int b = 0; b < 4; b++) {
            Check.due("lose(" + b + ")", x.lose(b), 64);
        }
    }

    private static void storeCountsBelowZero() {
        BaselineJpeg x = new BaselineJpeg();
        x.fill(0, 0, 20);
        Check.due("store()", x.store(), 4);
        x.fill(8, 0, 220);
        Check.due("store() with two blocks above and two below", x.store(), 4);
    }

    private static void storeAgain() {
        BaselineJpeg x = new BaselineJpeg();
        x.ramp(0, 16, 0);
        Check.holds("store() of a ramp", x.store() > 4);
        x.fill(0, 0, 140);
        Check.due("store() of an even picture", x.store(), 4);
        Check.due("level(0, 1, 0)", x.level(0, 1, 0), 0);
        Check.due("store() of the same", x.store(), 4);
        Check.due("level(3, 0, 0)", x.level(3, 0, 0), 192);
    }

    /** The pictures with the greatest S at one (u, v), so that each end's level is told from its neighbours. */
    private static void levelsAtEnds() {
        int[] ends = {0, 7};
        for (int u : ends) {
            for (int v : ends) {
                for (int b = 0; b < 4; b += 3) {
                    BaselineJpeg x = new BaselineJpeg();
                    for (int k = 0; k < 64; k++) {
                        int grey = K[u][k % 8] * K[v][k / 8] > 0 ? 255 : 0;
                        x.put(8 * (b % 2) + k % 8, 8 * (b / 2) + k / 8, grey);
                    }
                    x.store();
                    int want = levelOf(extremeSum(u, v, 255, 0), 8192 * (2 + u + v));
                    Check.due("level(" + b + ", " + u + ", " + v + ")", x.level(b, u, v), want);
                    Check.due("level(" + (3 - b) + ", " + u + ", " + v + ")", x.level(3 - b, u, v), 0);
                }
            }
        }
    }

    private static void levelWhenLost() {
        BaselineJpeg x = fullPicture();
        x.interval(2);
        x.store();
        x.lose(0);
        for (int k = 0; k < 64; k++) {
            Check.due("level(0, " + k / 8 + ", " + k % 8 + ")", x.level(0, k / 8, k % 8), 0);
            Check.due("level(1, " + k / 8 + ", " + k % 8 + ")", x.level(1, k / 8, k % 8), 0);
            Check.holds("level(2, " + k / 8 + ", " + k % 8 + ") is not 0", x.level(2, k / 8, k % 8) != 0);
        }
    }

    private static void weightEnds() {
        BaselineJpeg x = fullPicture();
        for (int b = 0; b < 4; b++) {
            Check.due("weight(" + b + ") before the first store", x.weight(b), 0);
        }
        x.store();
        for (int b = 0; b < 4; b++) {
            Check.due("weight(" + b + ") when full", x.weight(b), 64);
        }
        x.lose(0);
        for (int b = 0; b < 4; b++) {
            Check.due("weight(" + b + ") when lost", x.weight(b), 0);
        }
    }

    private static void weightBesideLost() {
        BaselineJpeg x = fullPicture();
        x.fill(8, 8, 128);
        x.interval(1);
        Check.due("store()", x.store(), 192);
        x.lose(1);
        Check.due("weight(0)", x.weight(0), 64);
        Check.due("weight(1)", x.weight(1), 0);
        Check.due("weight(2)", x.weight(2), 64);
        Check.due("weight(3)", x.weight(3), 0);
    }
}
