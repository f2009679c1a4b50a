/**
 * The document's words turned into code once more, apart from the program: it keeps all levels stored
 * and which segments are lost, so that a loss is seen from another side than in the program.
 */
final class Reference {
    static final int BAD_ARG = -1000000;
    private static final int[] QUARTER = {64, 63, 59, 53, 45, 36, 24, 12, 0};

    private int[][] picture = new int[16][16];
    private int quality = 1;
    private int interval = 4;
    private int[][][] stored = new int[4][8][8];
    private int storedQuality = 1;
    private int storedInterval = 4;
    private boolean[] lostSegment = new boolean[4];
    private int[][] shown;
    int cutAtBlack = 0;
    int cutAtWhite = 0;
    int halves = 0;

    Reference() {
        for (int[] column : picture) {
            java.util.Arrays.fill(column, 128);
        }
    }

    private static boolean outside(int n, int least, int greatest) {
        return n < least || n > greatest;
    }

    private static int wave(int u, int i) {
        int t = Math.floorMod((2 * i + 1) * u, 32);
        if (t <= 8) {
            return QUARTER[t];
        } else if (t <= 16) {
            return -QUARTER[16 - t];
        } else if (t <= 24) {
            return -QUARTER[t - 16];
        }
        return QUARTER[32 - t];
    }

    int put(int x, int y, int g) {
        if (outside(x, 0, 15) || outside(y, 0, 15) || outside(g, 0, 255)) {
            return BAD_ARG;
        }
        int before = picture[x][y];
        picture[x][y] = g;
        return before;
    }

    int fill(int x0, int y0, int g) {
        if (outside(x0, 0, 15) || outside(y0, 0, 15) || outside(g, 0, 255)) {
            return BAD_ARG;
        }
        for (int x = 0; x < 16; x++) {
            for (int y = 0; y < 16; y++) {
                picture[x][y] = x >= x0 && y >= y0 ? g : picture[x][y];
            }
        }
        return 0;
    }

    int ramp(int base, int a, int b) {
        if (outside(base, 0, 255) || outside(a, -64, 64) || outside(b, -64, 64)) {
            return BAD_ARG;
        }
        for (int x = 0; x < 16; x++) {
            for (int y = 0; y < 16; y++) {
                picture[x][y] = Math.max(0, Math.min(255, base + a * x + b * y));
            }
        }
        return 0;
    }

    int weave(int s) {
        if (outside(s, 0, 3)) {
            return BAD_ARG;
        }
        int digit = 1 << s;
        for (int x = 0; x < 16; x++) {
            for (int y = 0; y < 16; y++) {
                boolean odd = ((x & digit) != 0) != ((y & digit) != 0);
                picture[x][y] = odd ? 255 - picture[x][y] : picture[x][y];
            }
        }
        return 0;
    }

    int pixel(int x, int y) {
        return outside(x, 0, 15) || outside(y, 0, 15) ? BAD_ARG : picture[x][y];
    }

    int quality(int q) {
        if (outside(q, 1, 8)) {
            return BAD_ARG;
        }
        int before = quality;
        quality = q;
        return before;
    }

    int interval(int r) {
        if (outside(r, 1, 4)) {
            return BAD_ARG;
        }
        int before = interval;
        interval = r;
        return before;
    }

    int store() {
        storedQuality = quality;
        storedInterval = interval;
        lostSegment = new boolean[4];
        shown = null;
        for (int b = 0; b < 4; b++) {
            for (int u = 0; u < 8; u++) {
                for (int v = 0; v < 8; v++) {
                    stored[b][u][v] = levelOf(b, u, v);
                }
            }
        }
        return weight(0) + weight(1) + weight(2) + weight(3);
    }

    private int levelOf(int b, int u, int v) {
        long s = 0;
        for (int i = 0; i < 8; i++) {
            for (int j = 0; j < 8; j++) {
                s += (picture[8 * (b & 1) + i][8 * (b >> 1) + j] - 128L) * wave(u, i) * wave(v, j);
            }
        }
        long d = 8192L * storedQuality * (2 + u + v);
        if (Math.floorMod(2 * Math.abs(s) + d, 2 * d) == 0) {
            halves++;
        }
        return (int) (Long.signum(s) * Math.floorDiv(2 * Math.abs(s) + d, 2 * d));
    }

    int lose(int b) {
        if (outside(b, 0, 3)) {
            return BAD_ARG;
        }
        int before = weight(0) + weight(1) + weight(2) + weight(3);
        lostSegment[b / storedInterval] = true;
        shown = null;
        return before - (weight(0) + weight(1) + weight(2) + weight(3));
    }

    int level(int b, int u, int v) {
        if (outside(b, 0, 3) || outside(u, 0, 7) || outside(v, 0, 7)) {
            return BAD_ARG;
        }
        return lostSegment[b / storedInterval] ? 0 : stored[b][u][v];
    }

    int show(int x, int y) {
        if (outside(x, 0, 15) || outside(y, 0, 15)) {
            return BAD_ARG;
        }
        workOutShown();
        return shown[x][y];
    }

    private void workOutShown() {
        if (shown != null) {
            return;
        }
        shown = new int[16][16];
        for (int x = 0; x < 16; x++) {
            for (int y = 0; y < 16; y++) {
                shown[x][y] = greyOf(x, y);
            }
        }
    }

    private int greyOf(int x, int y) {
        int b = (x >= 8 ? 1 : 0) + (y >= 8 ? 2 : 0);
        long sum = 0;
        for (int u = 0; u < 8; u++) {
            for (int v = 0; v < 8; v++) {
                long share = (u == 0 ? 1 : 2) * (v == 0 ? 1 : 2);
                long d = 8192L * storedQuality * (2 + u + v);
                sum += share * level(b, u, v) * d * wave(u, x & 7) * wave(v, y & 7);
            }
        }
        long grey = 128 + Math.floorDiv(sum + 536870912L, 1073741824L);
        cutAtBlack += grey < 0 ? 1 : 0;
        cutAtWhite += grey > 255 ? 1 : 0;
        return (int) Math.max(0, Math.min(255, grey));
    }

    int difference() {
        workOutShown();
        int sum = 0;
        for (int x = 0; x < 16; x++) {
            for (int y = 0; y < 16; y++) {
                sum += Math.abs(picture[x][y] - shown[x][y]);
            }
        }
        return sum;
    }

    int adopt() {
        int before = difference();
        for (int x = 0; x < 16; x++) {
            picture[x] = shown[x].clone();
        }
        return before;
    }

    int weight(int b) {
        if (outside(b, 0, 3)) {
            return BAD_ARG;
        }
        int count = 0;
        for (int k = 0; k < 64; k++) {
            count += level(b, k / 8, k % 8) != 0 ? 1 : 0;
        }
        return count;
    }
}
