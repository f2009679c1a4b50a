/** The boundary cases of the picture: the term PICTURE, and what promises 1 to 6 answer and change at their ends. */
public final class PictureEndsTest {
    private static final int[] ENDS = {0, 15};

    public static void main(String[] args) {
        Check.test("1: all pixels are 128", PictureEndsTest::newPixels);
        Check.test("1: quality 1 is set", () -> Check.due("quality(1)", new BaselineJpeg().quality(1), 1));
        Check.test("1: interval 4 is set", () -> Check.due("interval(4)", new BaselineJpeg().interval(4), 4));
        Check.test("1: the next store is with quality 1 and interval 4", PictureEndsTest::newStore);
        Check.test("1: objects have nothing in common", PictureEndsTest::objectsApart);
        Check.test("2: each of the 256 pixels is its own", PictureEndsTest::everyPixelIsItsOwn);
        Check.test("2: put at the four corners", PictureEndsTest::putAtCorners);
        Check.test("2: every grey from 0 to 255, and the value before", PictureEndsTest::putOfEveryGrey);
        Check.test("2: put of the grey that is there", PictureEndsTest::putOfTheSame);
        Check.test("3: fill from (0, 0) on, all pixels", () -> fillFrom(0, 0));
        Check.test("3: fill from (15, 15) on, one pixel", () -> fillFrom(15, 15));
        Check.test("3: fill from (15, 0) on, the last column", () -> fillFrom(15, 0));
        Check.test("3: fill from (0, 15) on, the last row", () -> fillFrom(0, 15));
        Check.test("3: fill from (1, 14) on", () -> fillFrom(1, 14));
        Check.test("3: fill with the greys 0 and 255", PictureEndsTest::fillGreyEnds);
        Check.test("4: exactly 0 is 0, and -1 is 0", PictureEndsTest::rampAtBlack);
        Check.test("4: exactly 255 is 255, and 256 is 255", PictureEndsTest::rampAtWhite);
        Check.test("4: as far below 0 as it goes", () -> rampIsEven(0, -64, -64, 0));
        Check.test("4: as far above 255 as it goes", () -> rampIsEven(255, 64, 64, 255));
        Check.test("4: the base alone, 0", () -> rampIsEven(0, 0, 0, 0));
        Check.test("4: the base alone, 255", () -> rampIsEven(255, 0, 0, 255));
        Check.test("4: slopes at their ends against each other", PictureEndsTest::rampOfOppositeSlopes);
        Check.test("4: a is along x, b along y, and nothing stays of before", PictureEndsTest::rampDirections);
        Check.test("5: the least digit", () -> weaveOf(0));
        Check.test("5: the digit 1", () -> weaveOf(1));
        Check.test("5: the digit 2", () -> weaveOf(2));
        Check.test("5: the greatest digit", () -> weaveOf(3));
        Check.test("5: 0 becomes 255 and 255 becomes 0", () -> weaveTurns(0, 255));
        Check.test("5: 128 becomes 127 and 127 becomes 128", () -> weaveTurns(128, 127));
        Check.test("5: twice is as before", PictureEndsTest::weaveTwice);
        Check.test("6: pixel at the four corners", PictureEndsTest::pixelAtCorners);
        Check.test("6: pixel is of the picture, not of what is stored or shown", PictureEndsTest::pixelIsOfThePicture);
        Check.end();
    }

    private static void all(String what, BaselineJpeg x, int grey) {
        for (int k = 0; k < 256; k++) {
            Check.due(what + ", pixel(" + k % 16 + ", " + k / 16 + ")", x.pixel(k % 16, k / 16), grey);
        }
    }

    private static void newPixels() {
        all("new", new BaselineJpeg(), 128);
    }

    private static void newStore() {
        BaselineJpeg x = new BaselineJpeg();
        x.fill(0, 0, 129);
        Check.due("store()", x.store(), 4);
        Check.due("level(0, 0, 0), 64 * 4096 by 16384", x.level(0, 0, 0), 16);
        Check.due("lose(3), all blocks", x.lose(3), 4);
    }

    private static void objectsApart() {
        BaselineJpeg x = new BaselineJpeg();
        BaselineJpeg z = new BaselineJpeg();
        x.quality(7);
        x.interval(2);
        x.fill(0, 0, 0);
        x.store();
        Check.due("the other's pixel(0, 0)", z.pixel(0, 0), 128);
        Check.due("the other's weight(0)", z.weight(0), 0);
        Check.due("the other's show(0, 0)", z.show(0, 0), 128);
        Check.due("the other's quality", z.quality(3), 1);
        Check.due("the other's interval", z.interval(3), 4);
        z.fill(0, 0, 255);
        z.store();
        z.lose(0);
        Check.due("pixel(0, 0)", x.pixel(0, 0), 0);
        Check.due("weight(0)", x.weight(0), 1);
        Check.due("quality", x.quality(1), 7);
    }

    /** 256 calls of put and 256 of pixel are all that an object is good for. */
    private static void everyPixelIsItsOwn() {
        BaselineJpeg x = new BaselineJpeg();
        for (int k = 0; k < 256; k++) {
            Check.due("put(" + k % 16 + ", " + k / 16 + ")", x.put(k % 16, k / 16, k), 128);
        }
        for (int k = 0; k < 256; k++) {
            Check.due("pixel(" + k % 16 + ", " + k / 16 + ")", x.pixel(k % 16, k / 16), k);
        }
    }

    private static void putAtCorners() {
        for (int cx : ENDS) {
            for (int cy : ENDS) {
                BaselineJpeg x = new BaselineJpeg();
                Check.due("put(" + cx + ", " + cy + ", 3)", x.put(cx, cy, 3), 128);
                for (int k = 0; k < 256; k++) {
                    boolean corner = k % 16 == cx && k / 16 == cy;
                    Check.due("pixel(" + k % 16 + ", " + k / 16 + ")", x.pixel(k % 16, k / 16), corner ? 3 : 128);
                }
            }
        }
    }

    private static void putOfEveryGrey() {
        BaselineJpeg x = new BaselineJpeg();
        int before = 128;
        for (int g = 0; g <= 255; g++) {
            Check.due("put(6, 9, " + g + ")", x.put(6, 9, g), before);
            Check.due("pixel(6, 9)", x.pixel(6, 9), g);
            before = g;
        }
    }

    private static void putOfTheSame() {
        BaselineJpeg x = new BaselineJpeg();
        Check.due("put(1, 2, 128)", x.put(1, 2, 128), 128);
        Check.due("put(1, 2, 0)", x.put(1, 2, 0), 128);
        Check.due("put(1, 2, 0) again", x.put(1, 2, 0), 0);
        Check.due("pixel(1, 2)", x.pixel(1, 2), 0);
    }

    private static void fillFrom(int x0, int y0) {
        BaselineJpeg x = new BaselineJpeg();
        Check.due("fill(" + x0 + ", " + y0 + ", 40)", x.fill(x0, y0, 40), 0);
        for (int k = 0; k < 256; k++) {
            boolean inside = k % 16 >= x0 && k / 16 >= y0;
            Check.due("pixel(" + k % 16 + ", " + k / 16 + ")", x.pixel(k % 16, k / 16), inside ? 40 : 128);
        }
    }

    private static void fillGreyEnds() {
        BaselineJpeg x = new BaselineJpeg();
        Check.due("fill(0, 0, 255)", x.fill(0, 0, 255), 0);
        all("fill(0, 0, 255)", x, 255);
        Check.due("fill(0, 0, 0)", x.fill(0, 0, 0), 0);
        Check.due("pixel(0, 0)", x.pixel(0, 0), 0);
        Check.due("pixel(15, 15)", x.pixel(15, 15), 0);
    }

    private static void rampAtBlack() {
        BaselineJpeg x = new BaselineJpeg();
        Check.due("ramp(15, -1, 0)", x.ramp(15, -1, 0), 0);
        Check.due("pixel(14, 0), 1", x.pixel(14, 0), 1);
        Check.due("pixel(15, 0), 0", x.pixel(15, 0), 0);
        Check.due("ramp(14, 0, -1)", x.ramp(14, 0, -1), 0);
        Check.due("pixel(0, 13), 1", x.pixel(0, 13), 1);
        Check.due("pixel(0, 14), 0", x.pixel(0, 14), 0);
        Check.due("pixel(0, 15), -1", x.pixel(0, 15), 0);
    }

    private static void rampAtWhite() {
        BaselineJpeg x = new BaselineJpeg();
        Check.due("ramp(240, 1, 0)", x.ramp(240, 1, 0), 0);
        Check.due("pixel(14, 0), 254", x.pixel(14, 0), 254);
        Check.due("pixel(15, 0), 255", x.pixel(15, 0), 255);
        Check.due("ramp(241, 0, 1)", x.ramp(241, 0, 1), 0);
        Check.due("pixel(0, 13), 254", x.pixel(0, 13), 254);
        Check.due("pixel(0, 14), 255", x.pixel(0, 14), 255);
        Check.due("pixel(0, 15), 256", x.pixel(0, 15), 255);
    }

    private static void rampIsEven(int base, int a, int b, int grey) {
        BaselineJpeg x = new BaselineJpeg();
        Check.due("ramp(" + base + ", " + a + ", " + b + ")", x.ramp(base, a, b), 0);
        all("ramp(" + base + ", " + a + ", " + b + ")", x, grey);
    }

    private static void rampOfOppositeSlopes() {
        BaselineJpeg x = new BaselineJpeg();
        Check.due("ramp(255, 64, -64)", x.ramp(255, 64, -64), 0);
        Check.due("pixel(15, 15)", x.pixel(15, 15), 255);
        Check.due("pixel(14, 15)", x.pixel(14, 15), 191);
        Check.due("pixel(0, 3)", x.pixel(0, 3), 63);
        Check.due("pixel(0, 4), -1", x.pixel(0, 4), 0);
        Check.due("pixel(0, 15)", x.pixel(0, 15), 0);
        Check.due("pixel(15, 0)", x.pixel(15, 0), 255);
        Check.due("ramp(0, -64, 64)", x.ramp(0, -64, 64), 0);
        Check.due("pixel(15, 15)", x.pixel(15, 15), 0);
        Check.due("pixel(12, 15)", x.pixel(12, 15), 192);
        Check.due("pixel(11, 15), 256", x.pixel(11, 15), 255);
    }

    private static void rampDirections() {
        BaselineJpeg x = new BaselineJpeg();
        x.ramp(255, -64, 64);
        x.weave(2);
        Check.due("ramp(20, 2, 13)", x.ramp(20, 2, 13), 0);
        for (int k = 0; k < 256; k++) {
            Check.due("pixel(" + k % 16 + ", " + k / 16 + ")", x.pixel(k % 16, k / 16), 20 + 2 * (k % 16) + 13 * (k / 16));
        }
    }

    /** The digit s of n, written as a table: 16 signs, the sign of n at n. */
    private static final String[] DIGIT = {"0101010101010101", "0011001100110011", "0000111100001111", "0000000011111111"};

    private static void weaveOf(int s) {
        BaselineJpeg x = new BaselineJpeg();
        x.fill(0, 0, 10);
        Check.due("weave(" + s + ")", x.weave(s), 0);
        for (int k = 0; k < 256; k++) {
            boolean odd = DIGIT[s].charAt(k % 16) != DIGIT[s].charAt(k / 16);
            Check.due("pixel(" + k % 16 + ", " + k / 16 + ")", x.pixel(k % 16, k / 16), odd ? 245 : 10);
        }
    }

    private static void weaveTurns(int one, int other) {
        BaselineJpeg x = new BaselineJpeg();
        x.put(1, 0, one);
        x.put(0, 1, other);
        x.put(1, 1, one);
        x.put(0, 0, other);
        Check.due("weave(0)", x.weave(0), 0);
        Check.due("pixel(1, 0)", x.pixel(1, 0), other);
        Check.due("pixel(0, 1)", x.pixel(0, 1), one);
        Check.due("pixel(1, 1), 1 plus 1 is even", x.pixel(1, 1), one);
        Check.due("pixel(0, 0), 0 plus 0 is even", x.pixel(0, 0), other);
    }

    private static void weaveTwice() {
        BaselineJpeg x = new BaselineJpeg();
        x.ramp(7, 3, 9);
        x.weave(3);
        Check.due("weave(3) again", x.weave(3), 0);
        for (int k = 0; k < 256; k++) {
            Check.due("pixel(" + k % 16 + ", " + k / 16 + ")", x.pixel(k % 16, k / 16), 7 + 3 * (k % 16) + 9 * (k / 16));
        }
    }

    private static void pixelAtCorners() {
        BaselineJpeg x = new BaselineJpeg();
        x.ramp(5, 1, 10);
        Check.due("pixel(0, 0)", x.pixel(0, 0), 5);
        Check.due("pixel(15, 0)", x.pixel(15, 0), 20);
        Check.due("pixel(0, 15)", x.pixel(0, 15), 155);
        Check.due("pixel(15, 15)", x.pixel(15, 15), 170);
    }

    private static void pixelIsOfThePicture() {
        BaselineJpeg x = new BaselineJpeg();
        x.fill(0, 0, 200);
        x.store();
        x.put(15, 15, 9);
        x.lose(0);
        Check.due("show(15, 15)", x.show(15, 15), 128);
        Check.due("pixel(15, 15)", x.pixel(15, 15), 9);
        Check.due("pixel(14, 15)", x.pixel(14, 15), 200);
    }
}
