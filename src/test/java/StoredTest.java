/** Promises 7 to 11 and 15: quality, interval, store, lose, level, weight. */
public final class StoredTest {
    public static void main(String[] args) {
        quality();
        interval();
        beforeTheFirstStore();
        levelOfOnePixel();
        levelOfARamp();
        blocks();
        loseOfEachInterval();
        loseKeepsTheIntervalStored();
        storeUndoesLosing();
        levelRefuses();
        weight();
        Check.end();
    }

    private static void quality() {
        BaselineJpeg x = new BaselineJpeg();
        Check.due("7: quality(8)", x.quality(8), 1);
        Check.refused("7: quality(0)", x.quality(0));
        Check.refused("7: quality(9)", x.quality(9));
        Check.refused("7: quality(least)", x.quality(Integer.MIN_VALUE));
        x.fill(0, 0, 255);
        x.store();
        Check.due("7: level at quality 8 is 127 * 262144 / 131072", x.level(0, 0, 0), 254);
        Check.due("7: quality(1)", x.quality(1), 8);
        Check.due("7: level before the next store", x.level(0, 0, 0), 254);
        Check.due("7: show before the next store", x.show(0, 0), 255);
        Check.due("7: quality(3)", x.quality(3), 1);
        x.store();
        Check.due("7: level at quality 3", x.level(0, 0, 0), 677);
        Check.due("7: quality(3) again", x.quality(3), 3);
    }

    private static void interval() {
        BaselineJpeg x = new BaselineJpeg();
        Check.due("8: interval(1)", x.interval(1), 4);
        Check.refused("8: interval(0)", x.interval(0));
        Check.refused("8: interval(5)", x.interval(5));
        Check.refused("8: interval(-1)", x.interval(-1));
        Check.refused("8: interval(greatest)", x.interval(Integer.MAX_VALUE));
        Check.due("8: interval(4)", x.interval(4), 1);
        Check.due("8: interval(2)", x.interval(2), 4);
        Check.due("8: interval(3)", x.interval(3), 2);
    }

    private static void beforeTheFirstStore() {
        BaselineJpeg x = new BaselineJpeg();
        x.ramp(3, 9, 2);
        for (int b = 0; b < 4; b++) {
            Check.due("11: level before the first store", x.level(b, 0, 0), 0);
            Check.due("15: weight before the first store", x.weight(b), 0);
            Check.due("10: lose before the first store", x.lose(b), 0);
        }
    }

    /** One pixel p at the corner: S(u, v) = (p - 128) K(u, 0) K(v, 0), and 8192 is half of D at (0, 0). */
    private static void levelOfOnePixel() {
        levelAtCorner(129, 0, 0);
        levelAtCorner(130, 1, 1);
        levelAtCorner(126, -1, 1);
        levelAtCorner(127, 0, 0);
        BaselineJpeg x = new BaselineJpeg();
        x.put(0, 0, 255);
        x.store();
        Check.due("11: level(0, 0, 0), 127 * 64 * 64 / 16384", x.level(0, 0, 0), 32);
        Check.due("11: level(0, 7, 0), 127 * 12 * 64 / 73728", x.level(0, 7, 0), 1);
        Check.due("11: level(0, 7, 7), 127 * 12 * 12 / 131072", x.level(0, 7, 7), 0);
        Check.due("11: level(0, 1, 2), 127 * 63 * 59 / 40960", x.level(0, 1, 2), 12);
    }

    private static void levelAtCorner(int grey, int level, int count) {
        BaselineJpeg x = new BaselineJpeg();
        x.put(0, 0, grey);
        Check.due("9: store() with the corner " + grey, x.store(), count);
        Check.due("11: level(0, 0, 0) with the corner " + grey, x.level(0, 0, 0), level);
    }

    /** S(1, 0) is 4 * -826 * 8 * 64, and D there is 24576: 68.8 rounds to 69. */
    private static void levelOfARamp() {
        BaselineJpeg x = new BaselineJpeg();
        x.ramp(128, 4, 0);
        x.store();
        Check.due("11: level(0, 1, 0) of a ramp to the right", x.level(0, 1, 0), -69);
        Check.due("11: level(0, 0, 1) of a ramp to the right", x.level(0, 0, 1), 0);
        x.ramp(128, 0, -4);
        x.store();
        Check.due("11: level(0, 0, 1) of a ramp down", x.level(0, 0, 1), 69);
        Check.due("11: level(0, 1, 0) of a ramp down", x.level(0, 1, 0), 0);
    }

    private static void blocks() {
        int[][] corners = {{7, 7}, {8, 7}, {7, 8}, {8, 8}};
        for (int b = 0; b < 4; b++) {
            BaselineJpeg x = new BaselineJpeg();
            x.put(corners[b][0], corners[b][1], 255);
            int count = x.store();
            for (int other = 0; other < 4; other++) {
                Check.due("9: weight(" + other + ") with a pixel in block " + b, x.weight(other), other == b ? count : 0);
                Check.due("9: level(" + other + ", 0, 0) with a pixel in block " + b,
                    x.level(other, 0, 0), other == b ? 32 : 0);
            }
        }
    }

    private static void loseOfEachInterval() {
        int[][] firstLost = {{}, {0, 1, 2, 3}, {0, 0, 2, 2}, {0, 0, 0, 3}, {0, 0, 0, 0}};
        int[][] lastLost = {{}, {0, 1, 2, 3}, {1, 1, 3, 3}, {2, 2, 2, 3}, {3, 3, 3, 3}};
        for (int r = 1; r <= 4; r++) {
            for (int b = 0; b < 4; b++) {
                String what = "10: interval " + r + ", lose(" + b + ")";
                BaselineJpeg x = new BaselineJpeg();
                x.fill(0, 0, 200);
                x.interval(r);
                Check.due(what + ": store()", x.store(), 4);
                Check.due(what, x.lose(b), lastLost[r][b] - firstLost[r][b] + 1);
                for (int other = 0; other < 4; other++) {
                    boolean lost = other >= firstLost[r][b] && other <= lastLost[r][b];
                    Check.due(what + ": level(" + other + ", 0, 0)", x.level(other, 0, 0), lost ? 0 : 1152);
                    Check.due(what + ": weight(" + other + ")", x.weight(other), lost ? 0 : 1);
                    Check.due(what + ": show", x.show(8 * (other % 2) + 3, 8 * (other / 2) + 3), lost ? 128 : 200);
                }
                Check.due(what + " again", x.lose(b), 0);
            }
        }
    }

    private static void loseKeepsTheIntervalStored() {
        BaselineJpeg x = new BaselineJpeg();
        x.fill(0, 0, 200);
        x.interval(2);
        x.store();
        x.interval(1);
        Check.refused("10: lose(-1)", x.lose(-1));
        Check.refused("10: lose(4)", x.lose(4));
        Check.refused("10: lose(greatest)", x.lose(Integer.MAX_VALUE));
        Check.due("10: weight(0) after refusals", x.weight(0), 1);
        Check.due("10: lose(3) with the interval 2 stored and 1 set", x.lose(3), 2);
        Check.due("10: weight(1) is not lost", x.weight(1), 1);
        Check.due("10: weight(2) is lost", x.weight(2), 0);
    }

    private static void storeUndoesLosing() {
        BaselineJpeg x = new BaselineJpeg();
        x.fill(0, 0, 200);
        x.store();
        Check.due("10: lose(0)", x.lose(0), 4);
        Check.due("10: the picture stays", x.pixel(0, 0), 200);
        Check.due("9: store() after losing", x.store(), 4);
        Check.due("9: level(3, 0, 0) after losing", x.level(3, 0, 0), 1152);
        Check.due("9: show(0, 0) after losing", x.show(0, 0), 200);
        x.fill(0, 0, 128);
        Check.due("9: level(3, 0, 0) before the next store", x.level(3, 0, 0), 1152);
        Check.due("9: store() of a picture that is 128 all over", x.store(), 0);
        Check.due("9: level(3, 0, 0) after it", x.level(3, 0, 0), 0);
    }

    private static void levelRefuses() {
        BaselineJpeg x = new BaselineJpeg();
        Check.refused("11: level(-1, 0, 0)", x.level(-1, 0, 0));
        Check.refused("11: level(4, 0, 0)", x.level(4, 0, 0));
        Check.refused("11: level(0, -1, 0)", x.level(0, -1, 0));
        Check.refused("11: level(0, 8, 0)", x.level(0, 8, 0));
        Check.refused("11: level(0, 0, -1)", x.level(0, 0, -1));
        Check.refused("11: level(0, 0, 8)", x.level(0, 0, 8));
        Check.refused("11: level(least, 0, 0)", x.level(Integer.MIN_VALUE, 0, 0));
        Check.refused("11: level(3, 7, greatest)", x.level(3, 7, Integer.MAX_VALUE));
        Check.due("11: level(3, 7, 7)", x.level(3, 7, 7), 0);
    }

    private static void weight() {
        BaselineJpeg x = new BaselineJpeg();
        x.interval(1);
        x.put(8, 0, 130);
        x.fill(8, 8, 0);
        Check.due("15: store()", x.store(), 2);
        Check.due("15: weight(0)", x.weight(0), 0);
        Check.due("15: weight(1)", x.weight(1), 1);
        Check.due("15: weight(2)", x.weight(2), 0);
        Check.due("15: weight(3), a level below 0 counts", x.weight(3), 1);
        x.lose(3);
        Check.due("15: weight(3) when lost", x.weight(3), 0);
        Check.due("15: weight(1) when 3 is lost", x.weight(1), 1);
        Check.refused("15: weight(-1)", x.weight(-1));
        Check.refused("15: weight(4)", x.weight(4));
        Check.refused("15: weight(least)", x.weight(Integer.MIN_VALUE));
    }
}
