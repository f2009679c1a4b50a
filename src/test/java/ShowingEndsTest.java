/** The boundary cases of showing: the term SHOWING, and promises 12, 13 and 14 at their ends. */
public final class ShowingEndsTest {
    public static void main(String[] args) {
        Check.test("SHOWING: below 0 is 0", ShowingEndsTest::belowBlack);
        Check.test("SHOWING: exactly 0 is 0, 1 is 1", ShowingEndsTest::atBlack);
        Check.test("SHOWING: above 255 is 255", ShowingEndsTest::aboveWhite);
        Check.test("SHOWING: exactly 255 is 255, 254 is 254", ShowingEndsTest::atWhite);
        Check.test("SHOWING: far below 0 and far above 255", ShowingEndsTest::farOutside);
        Check.test("SHOWING: the greys 0 and 255 come back at every quality", ShowingEndsTest::endsComeBack);
        Check.test("SHOWING: T just at -536870912 gives Z = 0", () -> faint(false, 8, -1, 128));
        Check.test("SHOWING: T just above -536870912 gives Z = 0", () -> faint(false, 7, -1, 128));
        Check.test("SHOWING: T just below -536870912 gives Z = -1", () -> faint(false, 3, -3, 127));
        Check.test("SHOWING: T just at 536870912 gives Z = 1", () -> faint(true, 8, 1, 129));
        Check.test("SHOWING: T just below 536870912 gives Z = 0", () -> faint(true, 7, 1, 128));
        Check.test("SHOWING: T just above 536870912 gives Z = 1", () -> faint(true, 3, 3, 129));
        Check.test("SHOWING: e(0) = 1 and e(u) = 2, a picture comes back", ShowingEndsTest::wavesComeBack);
        Check.test("SHOWING: with the quality it was stored with", ShowingEndsTest::qualityStored);
        Check.test("12: the pixels at the blocks' borders", ShowingEndsTest::showAtBorders);
        Check.test("12: the four corners", ShowingEndsTest::showAtCorners);
        Check.test("12: 128 all over before the first store", ShowingEndsTest::showBeforeStore);
        Check.test("12: 128 where the segment is lost, and there alone", ShowingEndsTest::showWhenLost);
        Check.test("12: from what is stored, not from the picture", ShowingEndsTest::showIsOfWhatIsStored);
        Check.test("13: 0, the least", ShowingEndsTest::differenceLeast);
        Check.test("13: 65280, the greatest", ShowingEndsTest::differenceGreatest);
        Check.test("13: without its sign, so nothing cancels out", ShowingEndsTest::differenceWithoutSign);
        Check.test("13: over all pixels, each of the 256", ShowingEndsTest::differenceOfEachPixel);
        Check.test("13: before the first store", ShowingEndsTest::differenceBeforeStore);
        Check.test("13: after a loss", ShowingEndsTest::differenceAfterLoss);
        Check.test("13: changes nothing", ShowingEndsTest::differenceChangesNothing);
        Check.test("14: answers the difference as it was before", ShowingEndsTest::adoptAnswersBefore);
        Check.test("14: answers the greatest difference", ShowingEndsTest::adoptGreatest);
        Check.test("14: answers 0 if there is none, also the second time", ShowingEndsTest::adoptTwice);
        Check.test("14: the picture becomes what is shown, each pixel", ShowingEndsTest::adoptEachPixel);
        Check.test("14: before the first store all becomes 128", ShowingEndsTest::adoptBeforeStore);
        Check.test("14: greys that were cut are adopted as 0 and 255", ShowingEndsTest::adoptCut);
        Check.test("14: what is stored, lost and set stays", ShowingEndsTest::adoptKeepsTheRest);
        Check.end();
    }

    /** Squares of 4 by 4 pixels of 0 and 255; at quality 1 the row 0 is, uncut, 1, -3, 0, -1, 256, 255, 258, 254. */
    private static BaselineJpeg squares(int q) {
        BaselineJpeg x = new BaselineJpeg();
        x.quality(q);
        x.fill(0, 0, 0);
        x.weave(2);
        x.store();
        return x;
    }

    private static void belowBlack() {
        BaselineJpeg x = squares(1);
        Check.due("show(3, 0), -1", x.show(3, 0), 0);
        Check.due("show(2, 1), -2", x.show(2, 1), 0);
        Check.due("show(1, 0), -3", x.show(1, 0), 0);
    }

    private static void atBlack() {
        BaselineJpeg x = squares(1);
        Check.due("show(2, 0), 0", x.show(2, 0), 0);
        Check.due("show(0, 0), 1", x.show(0, 0), 1);
        Check.due("show(15, 7), 1", x.show(15, 7), 1);
    }

    private static void aboveWhite() {
        BaselineJpeg x = squares(1);
        Check.due("show(4, 0), 256", x.show(4, 0), 255);
        Check.due("show(5, 1), 257", x.show(5, 1), 255);
        Check.due("show(6, 0), 258", x.show(6, 0), 255);
    }

    private static void atWhite() {
        BaselineJpeg x = squares(1);
        Check.due("show(5, 0), 255", x.show(5, 0), 255);
        Check.due("show(7, 0), 254", x.show(7, 0), 254);
        Check.due("show(15, 8), 254", x.show(15, 8), 254);
    }

    private static void farOutside() {
        BaselineJpeg x = squares(7);
        Check.due("show(2, 2), -12", x.show(2, 2), 0);
        Check.due("show(13, 5), -12", x.show(13, 5), 0);
        Check.due("show(5, 2), 268", x.show(5, 2), 255);
        Check.due("show(10, 5), 268", x.show(10, 5), 255);
    }

    private static void endsComeBack() {
        for (int q = 1; q <= 8; q++) {
            for (int g = 0; g <= 255; g += 255) {
                BaselineJpeg x = new BaselineJpeg();
                x.quality(q);
                x.fill(0, 0, g);
                x.store();
                for (int k = 0; k < 256; k++) {
                    Check.due("show(" + k % 16 + ", " + k / 16 + ") of " + g + " at quality " + q, x.show(k % 16, k / 16), g);
                }
            }
        }
    }

    /**
     * Every second pixel is one more or less than 128, which leaves one level L in a block, at (0, 0): T is
     * L q sixteenths of 1073741824 all over.
     */
    private static void faint(boolean more, int q, int level, int grey) {
        BaselineJpeg x = new BaselineJpeg();
        for (int k = 0; k < 128; k++) {
            int py = k / 8;
            int px = 2 * (k % 8) + py % 2;
            x.put(px, py, more ? 129 : 127);
        }
        x.quality(q);
        Check.due("store()", x.store(), 4);
        for (int b = 0; b < 4; b++) {
            Check.due("level(" + b + ", 0, 0)", x.level(b, 0, 0), level);
        }
        for (int k = 0; k < 256; k++) {
            Check.due("show(" + k % 16 + ", " + k / 16 + ")", x.show(k % 16, k / 16), grey);
        }
    }

    /** At quality 1 these are shown nearly as they were: a wrong e(u) or e(v) would double or halve one direction. */
    private static void wavesComeBack() {
        int[][] ramps = {{100, 7, 0}, {100, 0, 7}, {20, 7, 8}, {255, -9, -8}, {128, 5, -5}};
        for (int[] ramp : ramps) {
            BaselineJpeg x = new BaselineJpeg();
            x.ramp(ramp[0], ramp[1], ramp[2]);
            x.store();
            for (int k = 0; k < 256; k++) {
                int was = Math.max(0, Math.min(255, ramp[0] + ramp[1] * (k % 16) + ramp[2] * (k / 16)));
                Check.holds("show(" + k % 16 + ", " + k / 16 + ") is near " + was,
                    Math.abs(x.show(k % 16, k / 16) - was) <= 2);
            }
        }
    }

    private static void qualityStored() {
        for (int stored = 1; stored <= 8; stored++) {
            for (int set = 1; set <= 8; set++) {
                BaselineJpeg x = new BaselineJpeg();
                x.fill(0, 0, 255);
                x.quality(stored);
                x.store();
                x.quality(set);
                Check.due("show(0, 0) stored with " + stored + ", then quality(" + set + ")", x.show(0, 0), 255);
                Check.due("difference() stored with " + stored + ", then quality(" + set + ")", x.difference(), 0);
            }
        }
    }

    private static BaselineJpeg fourGreys() {
        BaselineJpeg x = new BaselineJpeg();
        x.fill(0, 0, 10);
        x.fill(8, 0, 60);
        x.fill(0, 8, 160);
        x.fill(8, 8, 210);
        x.interval(1);
        x.store();
        return x;
    }

    private static void showAtBorders() {
        BaselineJpeg x = fourGreys();
        Check.due("show(7, 7)", x.show(7, 7), 10);
        Check.due("show(8, 7)", x.show(8, 7), 60);
        Check.due("show(7, 8)", x.show(7, 8), 160);
        Check.due("show(8, 8)", x.show(8, 8), 210);
    }

    private static void showAtCorners() {
        BaselineJpeg x = fourGreys();
        Check.due("show(0, 0)", x.show(0, 0), 10);
        Check.due("show(15, 0)", x.show(15, 0), 60);
        Check.due("show(0, 15)", x.show(0, 15), 160);
        Check.due("show(15, 15)", x.show(15, 15), 210);
    }

    private static void allShown(BaselineJpeg x, int grey) {
        for (int k = 0; k < 256; k++) {
            Check.due("show(" + k % 16 + ", " + k / 16 + ")", x.show(k % 16, k / 16), grey);
        }
    }

    private static void showBeforeStore() {
        allShown(new BaselineJpeg(), 128);
        BaselineJpeg x = new BaselineJpeg();
        x.ramp(0, 9, 8);
        x.quality(8);
        x.interval(1);
        x.lose(2);
        allShown(x, 128);
    }

    private static void showWhenLost() {
        int[] grey = {10, 60, 160, 210};
        for (int b = 0; b < 4; b++) {
            BaselineJpeg x = fourGreys();
            x.lose(b);
            for (int k = 0; k < 256; k++) {
                int of = (k % 16 > 7 ? 1 : 0) + (k / 16 > 7 ? 2 : 0);
                Check.due("show(" + k % 16 + ", " + k / 16 + ") after lose(" + b + ")", x.show(k % 16, k / 16),
                    of == b ? 128 : grey[of]);
            }
        }
    }

    private static void showIsOfWhatIsStored() {
        BaselineJpeg x = fourGreys();
        x.fill(0, 0, 255);
        x.put(15, 15, 0);
        x.weave(3);
        showAtBordersOf(x);
        x.ramp(0, 1, 1);
        showAtBordersOf(x);
    }

    private static void showAtBordersOf(BaselineJpeg x) {
        Check.due("show(7, 7)", x.show(7, 7), 10);
        Check.due("show(8, 7)", x.show(8, 7), 60);
        Check.due("show(7, 8)", x.show(7, 8), 160);
        Check.due("show(15, 15)", x.show(15, 15), 210);
    }

    private static void differenceLeast() {
        Check.due("difference() when new", new BaselineJpeg().difference(), 0);
        Check.due("difference() of an even picture", fourGreys().difference(), 0);
    }

    private static void differenceGreatest() {
        BaselineJpeg x = new BaselineJpeg();
        x.fill(0, 0, 0);
        x.store();
        x.fill(0, 0, 255);
        Check.due("difference(), 256 * 255", x.difference(), 65280);
        x.store();
        x.fill(0, 0, 0);
        Check.due("difference() the other way", x.difference(), 65280);
    }

    private static void differenceWithoutSign() {
        BaselineJpeg x = new BaselineJpeg();
        x.put(0, 0, 228);
        x.put(0, 1, 28);
        Check.due("difference() of 100 more and 100 less", x.difference(), 200);
        x.put(0, 0, 127);
        x.put(0, 1, 129);
        Check.due("difference() of 1 less and 1 more", x.difference(), 2);
    }

    private static void differenceOfEachPixel() {
        BaselineJpeg x = new BaselineJpeg();
        for (int k = 0; k < 255; k++) {
            x.put(k % 16, k / 16, 129);
            Check.due("difference() with " + (k + 1) + " pixels of 129", x.difference(), k + 1);
        }
        x.put(15, 15, 129);
        Check.due("difference() with 256 pixels of 129", x.difference(), 256);
    }

    private static void differenceBeforeStore() {
        BaselineJpeg x = new BaselineJpeg();
        x.fill(0, 0, 0);
        Check.due("difference(), 256 * 128", x.difference(), 32768);
        x.fill(0, 0, 255);
        Check.due("difference(), 256 * 127", x.difference(), 32512);
    }

    private static void differenceAfterLoss() {
        BaselineJpeg x = fourGreys();
        x.lose(0);
        Check.due("difference() without block 0", x.difference(), 64 * 118);
        x.lose(0);
        Check.due("difference() without block 0, lost twice", x.difference(), 64 * 118);
        x.lose(3);
        Check.due("difference() without blocks 0 and 3", x.difference(), 64 * 118 + 64 * 82);
        x.store();
        Check.due("difference() after the next store", x.difference(), 0);
    }

    private static void differenceChangesNothing() {
        java.util.List<int[]> before = java.util.List.of(Calls.call("ramp", 250, -11, 3), Calls.call("weave", 1),
            Calls.call("quality", 6), Calls.call("interval", 2), Calls.call("store"), Calls.call("lose", 1),
            Calls.call("weave", 0), Calls.call("quality", 3), Calls.call("interval", 3));
        java.util.List<int[]> run = new java.util.ArrayList<>(before);
        run.add(Calls.call("difference"));
        WholeState.check("after difference()", run, before);
    }

    private static void adoptAnswersBefore() {
        BaselineJpeg x = fourGreys();
        x.put(0, 0, 13);
        x.put(15, 15, 200);
        Check.due("difference()", x.difference(), 13);
        Check.due("adopt()", x.adopt(), 13);
        Check.due("difference() after it", x.difference(), 0);
        x.lose(1);
        Check.due("adopt() after a loss", x.adopt(), 64 * 68);
    }

    private static void adoptGreatest() {
        BaselineJpeg x = new BaselineJpeg();
        x.fill(0, 0, 255);
        x.store();
        x.fill(0, 0, 0);
        Check.due("adopt()", x.adopt(), 65280);
        Check.due("pixel(0, 0)", x.pixel(0, 0), 255);
    }

    private static void adoptTwice() {
        Check.due("adopt() when new", new BaselineJpeg().adopt(), 0);
        BaselineJpeg x = fourGreys();
        Check.due("adopt() of the same", x.adopt(), 0);
        x.put(3, 3, 0);
        Check.due("adopt()", x.adopt(), 10);
        Check.due("adopt() again", x.adopt(), 0);
    }

    private static void adoptEachPixel() {
        BaselineJpeg shown = squares(7);
        BaselineJpeg x = squares(7);
        x.ramp(0, 3, 11);
        x.adopt();
        for (int k = 0; k < 256; k++) {
            Check.due("pixel(" + k % 16 + ", " + k / 16 + ")", x.pixel(k % 16, k / 16), shown.show(k % 16, k / 16));
        }
    }

    private static void adoptBeforeStore() {
        BaselineJpeg x = new BaselineJpeg();
        x.fill(0, 0, 0);
        x.fill(8, 8, 255);
        Check.due("adopt()", x.adopt(), 192 * 128 + 64 * 127);
        for (int k = 0; k < 256; k++) {
            Check.due("pixel(" + k % 16 + ", " + k / 16 + ")", x.pixel(k % 16, k / 16), 128);
        }
    }

    private static void adoptCut() {
        BaselineJpeg x = squares(7);
        x.fill(0, 0, 128);
        x.adopt();
        Check.due("pixel(2, 2), shown -12", x.pixel(2, 2), 0);
        Check.due("pixel(5, 2), shown 268", x.pixel(5, 2), 255);
        Check.due("difference()", x.difference(), 0);
    }

    private static void adoptKeepsTheRest() {
        BaselineJpeg x = fourGreys();
        x.lose(2);
        x.quality(6);
        x.interval(3);
        x.adopt();
        Check.due("weight(0)", x.weight(0), 1);
        Check.due("level(0, 0, 0), 118 * 16", x.level(0, 0, 0), -1888);
        Check.due("level(2, 0, 0) stays lost", x.level(2, 0, 0), 0);
        Check.due("show(0, 0)", x.show(0, 0), 10);
        Check.due("lose(0) in segments of 1", x.lose(0), 1);
        Check.due("quality(1)", x.quality(1), 6);
        Check.due("interval(1)", x.interval(1), 3);
        Check.due("pixel(0, 0) was adopted before the loss", x.pixel(0, 0), 10);
    }
}
