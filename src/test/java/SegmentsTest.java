/** The boundary cases of SEGMENTS, of the time before the first store, and of promises 7, 8, 9 and 10. */
public final class SegmentsTest {
    /** For each interval the segment of each block, as the blocks that it has. */
    private static final String[][] SEGMENT = {
        {},
        {"0", "1", "2", "3"},
        {"01", "01", "23", "23"},
        {"012", "012", "012", "3"},
        {"0123", "0123", "0123", "0123"}};

    public static void main(String[] args) {
        for (int interval = 1; interval <= 4; interval++) {
            for (int block = 0; block < 4; block++) {
                int r = interval;
                int b = block;
                Check.test("SEGMENTS: interval " + r + ", lose(" + b + ") loses " + SEGMENT[r][b], () -> segment(r, b));
                Check.test("10: interval " + r + ", lose(" + b + ") again answers 0", () -> loseAgain(r, b));
            }
        }
        Check.test("before the first store all 256 levels are 0", SegmentsTest::levelsBeforeStore);
        Check.test("before the first store every weight is 0", SegmentsTest::weightsBeforeStore);
        Check.test("before the first store lose answers 0", SegmentsTest::loseBeforeStore);
        Check.test("before the first store what is set, drawn and lost shows nowhere", SegmentsTest::drawnBeforeStore);
        Check.test("7: each quality from 1 to 8 counts for the next store", SegmentsTest::qualityForNextStore);
        Check.test("7: not for what is stored already", SegmentsTest::qualityNotForStored);
        Check.test("7: not for what is stored already when it is set before an adopt or a loss", SegmentsTest::qualityThenOthers);
        Check.test("7: of two that are set the last counts", SegmentsTest::lastQualityCounts);
        Check.test("7: it stays set for the store after the next", SegmentsTest::qualityStays);
        Check.test("7: the one set before, also if one was refused between", SegmentsTest::qualityBefore);
        Check.test("8: each interval from 1 to 4 counts for the next store", SegmentsTest::intervalForNextStore);
        Check.test("8: not for what is stored already", SegmentsTest::intervalNotForStored);
        Check.test("8: of two that are set the last counts", SegmentsTest::lastIntervalCounts);
        Check.test("8: it stays set for the store after the next", SegmentsTest::intervalStays);
        Check.test("8: the one set before, also if one was refused between", SegmentsTest::intervalBefore);
        Check.test("9: no segment is lost after a store, one was", SegmentsTest::storeAfterOneLost);
        Check.test("9: no segment is lost after a store, all were", SegmentsTest::storeAfterAllLost);
        Check.test("9: no segment is lost after the first store, one was before it", SegmentsTest::firstStoreAfterLoss);
        Check.test("9: no segment is lost after a store with another interval", SegmentsTest::storeWithOtherInterval);
        Check.test("10: levels that were 0 before do not count", SegmentsTest::zeroesDoNotCount);
        Check.test("10: a segment without levels answers 0", SegmentsTest::loseOfNothing);
        Check.test("10: one segment after the other, together all levels", SegmentsTest::loseAllInTurn);
        Check.test("10: lost from now on, until the next store", SegmentsTest::staysLost);
        Check.test("10: the picture and what is set stay", SegmentsTest::loseKeepsTheRest);
        Check.end();
    }

    /** How many levels the blocks of fourWeights have: every set of blocks has a sum of its own. */
    private static final int[] WEIGHTS = {1, 3, 8, 17};
    private static final int[] LEVEL_OF_WHITE = {0, 2032, 1016, 677, 508, 406, 339, 290, 254};

    /** The brighter the one pixel at a block's corner, the more levels are not 0. */
    private static void drawFourWeights(BaselineJpeg x) {
        x.fill(0, 0, 128);
        x.put(0, 0, 130);
        x.put(8, 0, 132);
        x.put(0, 8, 134);
        x.put(8, 8, 138);
    }

    private static BaselineJpeg fourWeights(int r) {
        BaselineJpeg x = new BaselineJpeg();
        drawFourWeights(x);
        x.interval(r);
        Check.due("store()", x.store(), 29);
        return x;
    }

    private static int weightOf(String blocks) {
        int sum = 0;
        for (int b = 0; b < 4; b++) {
            sum += blocks.indexOf('0' + b) >= 0 ? WEIGHTS[b] : 0;
        }
        return sum;
    }

    private static void lostAre(String what, BaselineJpeg x, String blocks) {
        for (int b = 0; b < 4; b++) {
            boolean lost = blocks.indexOf('0' + b) >= 0;
            Check.due(what + ", weight(" + b + ")", x.weight(b), lost ? 0 : WEIGHTS[b]);
            Check.holds(what + ", level(" + b + ", 0, 0)", x.level(b, 0, 0) == 0 == lost);
        }
    }

    private static void segment(int r, int b) {
        BaselineJpeg x = fourWeights(r);
        lostAre("before", x, "");
        Check.due("lose(" + b + ")", x.lose(b), weightOf(SEGMENT[r][b]));
        lostAre("after lose(" + b + ")", x, SEGMENT[r][b]);
    }

    /** The segment is lost already, whichever of its blocks is named. */
    private static void loseAgain(int r, int b) {
        for (int other = 0; other < 4; other++) {
            BaselineJpeg x = fourWeights(r);
            x.lose(b);
            boolean same = SEGMENT[r][b].equals(SEGMENT[r][other]);
            Check.due("lose(" + b + "), then lose(" + other + ")", x.lose(other), same ? 0 : weightOf(SEGMENT[r][other]));
            lostAre("after both", x, same ? SEGMENT[r][b] : SEGMENT[r][b] + SEGMENT[r][other]);
            Check.due("lose(" + b + ") once more", x.lose(b), 0);
        }
    }

    private static void levelsBeforeStore() {
        BaselineJpeg x = new BaselineJpeg();
        for (int k = 0; k < 256; k++) {
            Check.due("level(" + k / 64 + ", " + k / 8 % 8 + ", " + k % 8 + ")", x.level(k / 64, k / 8 % 8, k % 8), 0);
        }
    }

    private static void weightsBeforeStore() {
        BaselineJpeg x = new BaselineJpeg();
        for (int b = 0; b < 4; b++) {
            Check.due("weight(" + b + ")", x.weight(b), 0);
        }
    }

    private static void loseBeforeStore() {
        for (int b = 0; b < 4; b++) {
            BaselineJpeg x = new BaselineJpeg();
            x.fill(0, 0, 0);
            Check.due("lose(" + b + ")", x.lose(b), 0);
            Check.due("lose(" + b + ") again", x.lose(b), 0);
        }
    }

    private static void drawnBeforeStore() {
        BaselineJpeg x = new BaselineJpeg();
        x.quality(8);
        x.interval(1);
        x.fill(0, 0, 255);
        x.lose(0);
        for (int b = 0; b < 4; b++) {
            Check.due("level(" + b + ", 0, 0)", x.level(b, 0, 0), 0);
            Check.due("weight(" + b + ")", x.weight(b), 0);
            Check.due("show in block " + b, x.show(8 * (b % 2), 8 * (b / 2)), 128);
        }
        Check.due("difference()", x.difference(), 256 * 127);
    }

    private static void qualityForNextStore() {
        for (int q = 1; q <= 8; q++) {
            BaselineJpeg x = new BaselineJpeg();
            x.fill(0, 0, 255);
            Check.due("quality(" + q + ")", x.quality(q), 1);
            x.store();
            for (int b = 0; b < 4; b++) {
                Check.due("level(" + b + ", 0, 0) at quality " + q, x.level(b, 0, 0), LEVEL_OF_WHITE[q]);
            }
        }
    }

    private static void qualityNotForStored() {
        for (int stored = 1; stored <= 8; stored++) {
            for (int set = 1; set <= 8; set++) {
                BaselineJpeg x = new BaselineJpeg();
                x.fill(0, 0, 255);
                x.quality(stored);
                x.store();
                Check.due("quality(" + set + ")", x.quality(set), stored);
                String what = " stored with " + stored + ", then quality(" + set + ")";
                Check.due("level(3, 0, 0)" + what, x.level(3, 0, 0), LEVEL_OF_WHITE[stored]);
                Check.due("show(9, 9)" + what, x.show(9, 9), 255);
                Check.due("weight(3)" + what, x.weight(3), 1);
                Check.due("difference()" + what, x.difference(), 0);
                x.store();
                Check.due("level(3, 0, 0) after the next store", x.level(3, 0, 0), LEVEL_OF_WHITE[set]);
            }
        }
    }

    private static void qualityThenOthers() {
        BaselineJpeg x = new BaselineJpeg();
        x.fill(0, 0, 255);
        x.interval(2);
        x.quality(8);
        x.store();
        x.quality(1);
        x.lose(0);
        Check.due("level(2, 0, 0) after a loss", x.level(2, 0, 0), 254);
        Check.due("adopt()", x.adopt(), 128 * 127);
        Check.due("level(2, 0, 0) after adopt", x.level(2, 0, 0), 254);
        Check.due("show(0, 8) after adopt", x.show(0, 8), 255);
        Check.due("show(0, 0) after adopt", x.show(0, 0), 128);
    }

    private static void lastQualityCounts() {
        BaselineJpeg x = new BaselineJpeg();
        x.fill(0, 0, 255);
        Check.due("quality(8)", x.quality(8), 1);
        Check.due("quality(2)", x.quality(2), 8);
        x.store();
        Check.due("level(0, 0, 0)", x.level(0, 0, 0), LEVEL_OF_WHITE[2]);
    }

    private static void qualityStays() {
        BaselineJpeg x = new BaselineJpeg();
        x.fill(0, 0, 255);
        x.quality(5);
        x.store();
        x.fill(0, 0, 0);
        x.store();
        x.fill(0, 0, 255);
        x.store();
        Check.due("level(0, 0, 0) after three stores", x.level(0, 0, 0), LEVEL_OF_WHITE[5]);
        Check.due("quality(5)", x.quality(5), 5);
    }

    private static void qualityBefore() {
        BaselineJpeg x = new BaselineJpeg();
        Check.due("quality(8)", x.quality(8), 1);
        Check.refused("quality(9)", x.quality(9));
        Check.due("quality(1)", x.quality(1), 8);
        Check.refused("quality(0)", x.quality(0));
        Check.due("quality(1) again", x.quality(1), 1);
        x.fill(0, 0, 255);
        x.quality(7);
        Check.refused("quality(-7)", x.quality(-7));
        x.store();
        Check.due("level(0, 0, 0) with the one not refused", x.level(0, 0, 0), LEVEL_OF_WHITE[7]);
        Check.due("quality(2)", x.quality(2), 7);
    }

    private static void intervalForNextStore() {
        for (int r = 1; r <= 4; r++) {
            BaselineJpeg x = new BaselineJpeg();
            drawFourWeights(x);
            Check.due("interval(" + r + ")", x.interval(r), 4);
            x.store();
            Check.due("lose(2) with the interval " + r, x.lose(2), weightOf(SEGMENT[r][2]));
        }
    }

    private static void intervalNotForStored() {
        for (int stored = 1; stored <= 4; stored++) {
            for (int set = 1; set <= 4; set++) {
                for (int b = 0; b < 4; b++) {
                    BaselineJpeg x = fourWeights(stored);
                    Check.due("interval(" + set + ")", x.interval(set), stored);
                    Check.due("lose(" + b + ") stored with " + stored + ", then interval(" + set + ")", x.lose(b),
                        weightOf(SEGMENT[stored][b]));
                    lostAre("stored with " + stored + ", then interval(" + set + ")", x, SEGMENT[stored][b]);
                    x.store();
                    Check.due("lose(" + b + ") after the next store", x.lose(b), weightOf(SEGMENT[set][b]));
                }
            }
        }
    }

    private static void lastIntervalCounts() {
        BaselineJpeg x = new BaselineJpeg();
        drawFourWeights(x);
        Check.due("interval(1)", x.interval(1), 4);
        Check.due("interval(3)", x.interval(3), 1);
        x.store();
        Check.due("lose(0)", x.lose(0), weightOf("012"));
    }

    private static void intervalStays() {
        BaselineJpeg x = fourWeights(2);
        x.store();
        x.store();
        Check.due("lose(3) after three stores", x.lose(3), weightOf("23"));
        Check.due("interval(2)", x.interval(2), 2);
    }

    private static void intervalBefore() {
        BaselineJpeg x = new BaselineJpeg();
        Check.due("interval(1)", x.interval(1), 4);
        Check.refused("interval(0)", x.interval(0));
        Check.due("interval(4)", x.interval(4), 1);
        Check.refused("interval(5)", x.interval(5));
        Check.due("interval(3)", x.interval(3), 4);
        Check.refused("interval(-3)", x.interval(-3));
        drawFourWeights(x);
        x.store();
        Check.due("lose(3) with the one not refused", x.lose(3), weightOf("3"));
        Check.due("interval(3) again", x.interval(3), 3);
    }

    private static void storeAfterOneLost() {
        for (int r = 1; r <= 4; r++) {
            for (int b = 0; b < 4; b++) {
                BaselineJpeg x = fourWeights(r);
                x.lose(b);
                Check.due("store() after lose(" + b + ")", x.store(), 29);
                lostAre("after the store", x, "");
                Check.due("lose(" + b + ") once more", x.lose(b), weightOf(SEGMENT[r][b]));
            }
        }
    }

    private static void storeAfterAllLost() {
        BaselineJpeg x = fourWeights(1);
        for (int b = 0; b < 4; b++) {
            x.lose(b);
        }
        lostAre("before the store", x, "0123");
        Check.due("store()", x.store(), 29);
        lostAre("after the store", x, "");
    }

    private static void firstStoreAfterLoss() {
        BaselineJpeg x = new BaselineJpeg();
        x.lose(0);
        x.lose(3);
        drawFourWeights(x);
        Check.due("store()", x.store(), 29);
        lostAre("after the store", x, "");
    }

    private static void storeWithOtherInterval() {
        BaselineJpeg x = fourWeights(4);
        x.lose(0);
        x.interval(1);
        Check.due("store()", x.store(), 29);
        lostAre("after the store", x, "");
        Check.due("lose(1)", x.lose(1), weightOf("1"));
        x.interval(3);
        Check.due("store() again", x.store(), 29);
        lostAre("after the second store", x, "");
    }

    private static void zeroesDoNotCount() {
        BaselineJpeg x = new BaselineJpeg();
        x.put(0, 0, 130);
        x.store();
        Check.due("lose(3), one of 256 levels is not 0", x.lose(3), 1);
    }

    private static void loseOfNothing() {
        BaselineJpeg x = new BaselineJpeg();
        x.put(0, 0, 255);
        x.interval(1);
        x.store();
        Check.due("lose(3)", x.lose(3), 0);
        Check.due("weight(0)", x.weight(0), 59);
        Check.due("lose(0)", x.lose(0), 59);
    }

    private static void loseAllInTurn() {
        for (int r = 1; r <= 4; r++) {
            BaselineJpeg x = fourWeights(r);
            int sum = 0;
            for (int b = 3; b >= 0; b--) {
                sum += x.lose(b);
            }
            Check.due("all that was lost with the interval " + r, sum, 29);
            lostAre("then", x, "0123");
        }
    }

    private static void staysLost() {
        BaselineJpeg x = fourWeights(2);
        x.lose(1);
        x.interval(1);
        x.quality(2);
        x.weave(0);
        x.adopt();
        x.put(0, 0, 9);
        x.difference();
        Check.refused("lose(4)", x.lose(4));
        lostAre("after others", x, "01");
        Check.due("show(0, 0)", x.show(0, 0), 128);
        drawFourWeights(x);
        x.quality(1);
        x.store();
        lostAre("after the next store", x, "");
    }

    private static void loseKeepsTheRest() {
        BaselineJpeg x = fourWeights(1);
        x.quality(6);
        x.interval(3);
        x.lose(3);
        Check.due("pixel(8, 8)", x.pixel(8, 8), 138);
        Check.due("pixel(0, 0)", x.pixel(0, 0), 130);
        Check.due("quality(1)", x.quality(1), 6);
        Check.due("interval(1)", x.interval(1), 3);
    }
}
