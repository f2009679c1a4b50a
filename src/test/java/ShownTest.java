/** Promises 12 to 14: show, difference, adopt. */
public final class ShownTest {
    public static void main(String[] args) {
        beforeTheFirstStore();
        evenGreys();
        roundsDownBelowZero();
        showOfOneLevel();
        showIsCut();
        showRefuses();
        showKeepsTheQualityStored();
        difference();
        adopt();
        Check.end();
    }

    private static void beforeTheFirstStore() {
        BaselineJpeg x = new BaselineJpeg();
        Check.due("13: difference() when new", x.difference(), 0);
        x.fill(0, 0, 130);
        Check.due("12: show(0, 0) before the first store", x.show(0, 0), 128);
        Check.due("12: show(15, 15) before the first store", x.show(15, 15), 128);
        Check.due("13: difference() before the first store", x.difference(), 512);
        x.fill(0, 0, 125);
        Check.due("13: difference() without its sign", x.difference(), 768);
        Check.due("14: adopt() before the first store", x.adopt(), 768);
        Check.due("14: pixel(7, 7) then", x.pixel(7, 7), 128);
    }

    /** At quality 1 an even block keeps its grey: S at (0, 0) is a whole number of D. */
    private static void evenGreys() {
        for (int g = 0; g <= 255; g += 15) {
            BaselineJpeg x = new BaselineJpeg();
            x.fill(0, 0, g);
            x.store();
            Check.due("12: show(0, 15) of a picture of " + g, x.show(0, 15), g);
            Check.due("13: difference() of a picture of " + g, x.difference(), 0);
        }
    }

    /** At quality 7 the level is 2 or -2 and T is 0.875 of 1073741824, above or below 0. */
    private static void roundsDownBelowZero() {
        BaselineJpeg x = new BaselineJpeg();
        x.quality(7);
        x.fill(0, 0, 127);
        x.store();
        Check.due("12: level(0, 0, 0)", x.level(0, 0, 0), -2);
        Check.due("12: show(0, 0) of 127", x.show(0, 0), 127);
        x.fill(0, 0, 129);
        x.store();
        Check.due("12: show(0, 0) of 129", x.show(0, 0), 129);
        x.fill(0, 0, 126);
        x.store();
        // -5 * 114688 * 4096 is -2.1875 of 1073741824.
        Check.due("12: show(0, 0) of 126", x.show(0, 0), 126);
    }

    /** One pixel of 130 leaves the level 1 at (0, 0): 16384 * 4096 is a sixteenth, which shows as nothing. */
    private static void showOfOneLevel() {
        BaselineJpeg x = new BaselineJpeg();
        x.put(0, 0, 130);
        Check.due("12: store()", x.store(), 1);
        Check.due("12: show(0, 0)", x.show(0, 0), 128);
        Check.due("13: difference()", x.difference(), 2);
        x.ramp(128, 4, 0);
        x.store();
        Check.due("12: show(0, 0) of a ramp", x.show(0, 0), 128);
        Check.due("12: show(7, 0) of a ramp", x.show(7, 0), 156);
        Check.due("12: show(8, 0) of a ramp", x.show(8, 0), 160);
        Check.due("12: show(0, 7) of a ramp", x.show(0, 7), 128);
    }

    /** A chessboard of 0 and 255 stored roughly overshoots; the reference says that both ends are cut. */
    private static void showIsCut() {
        BaselineJpeg x = new BaselineJpeg();
        Reference due = new Reference();
        x.quality(8);
        due.quality(8);
        x.fill(0, 0, 0);
        due.fill(0, 0, 0);
        x.weave(0);
        due.weave(0);
        x.store();
        due.store();
        for (int k = 0; k < 256; k++) {
            Check.due("12: show of a chessboard, pixel " + k, x.show(k % 16, k / 16), due.show(k % 16, k / 16));
        }
        Check.holds("12: the chessboard is cut at black", due.cutAtBlack > 0);
        Check.holds("12: the chessboard is cut at white", due.cutAtWhite > 0);
    }

    private static void showRefuses() {
        BaselineJpeg x = new BaselineJpeg();
        Check.refused("12: show(-1, 0)", x.show(-1, 0));
        Check.refused("12: show(16, 0)", x.show(16, 0));
        Check.refused("12: show(0, -1)", x.show(0, -1));
        Check.refused("12: show(0, 16)", x.show(0, 16));
        Check.refused("12: show(least, 0)", x.show(Integer.MIN_VALUE, 0));
        Check.refused("12: show(0, greatest)", x.show(0, Integer.MAX_VALUE));
    }

    private static void showKeepsTheQualityStored() {
        BaselineJpeg x = new BaselineJpeg();
        x.fill(0, 0, 140);
        x.store();
        x.quality(8);
        x.fill(0, 0, 20);
        Check.due("12: show(9, 9) after quality and fill", x.show(9, 9), 140);
        Check.due("13: difference() after fill", x.difference(), 120 * 256);
    }

    private static void difference() {
        BaselineJpeg x = new BaselineJpeg();
        x.interval(1);
        x.fill(0, 0, 200);
        x.fill(8, 8, 100);
        x.store();
        Check.due("13: difference()", x.difference(), 0);
        x.lose(0);
        Check.due("13: difference() after lose(0)", x.difference(), 72 * 64);
        x.lose(3);
        Check.due("13: difference() after lose(3)", x.difference(), 72 * 64 + 28 * 64);
        x.put(15, 0, 0);
        Check.due("13: difference() after put", x.difference(), 72 * 64 + 28 * 64 + 200);
    }

    private static void adopt() {
        BaselineJpeg x = new BaselineJpeg();
        x.interval(1);
        x.fill(0, 0, 200);
        x.store();
        x.lose(1);
        x.put(0, 0, 7);
        Check.due("14: adopt()", x.adopt(), 72 * 64 + 193);
        Check.due("14: pixel(0, 0)", x.pixel(0, 0), 200);
        Check.due("14: pixel(8, 7)", x.pixel(8, 7), 128);
        Check.due("14: pixel(7, 8)", x.pixel(7, 8), 200);
        Check.due("14: difference()", x.difference(), 0);
        Check.due("14: what is stored stays", x.level(0, 0, 0), 1152);
        Check.due("14: what is lost stays lost", x.level(1, 0, 0), 0);
        Check.due("14: adopt() again", x.adopt(), 0);
        Check.due("14: the interval stored stays", x.lose(0), 1);
        Check.due("14: store()", x.store(), 3);
        Check.due("14: show(8, 7)", x.show(8, 7), 128);
    }
}
