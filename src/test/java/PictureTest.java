/** Promises 1 to 6: a new object, put, fill, ramp, weave, pixel. */
public final class PictureTest {
    public static void main(String[] args) {
        newObject();
        put();
        fill();
        ramp();
        rampIsCut();
        weave();
        pixel();
        Check.end();
    }

    private static void newObject() {
        BaselineJpeg x = new BaselineJpeg();
        for (int k = 0; k < 256; k++) {
            Check.due("1: new, pixel " + k, x.pixel(k % 16, k / 16), 128);
        }
        Check.due("1: new, quality(5)", x.quality(5), 1);
        Check.due("1: new, interval(2)", x.interval(2), 4);
        BaselineJpeg z = new BaselineJpeg();
        Check.due("1: new, pixel after another object's put", z.put(0, 0, 9) + new BaselineJpeg().pixel(0, 0), 256);
    }

    private static void put() {
        BaselineJpeg x = new BaselineJpeg();
        Check.due("2: put(2, 11, 0)", x.put(2, 11, 0), 128);
        Check.due("2: put(2, 11, 255)", x.put(2, 11, 255), 0);
        Check.due("2: put(15, 15, 7)", x.put(15, 15, 7), 128);
        Check.due("2: put(0, 0, 8)", x.put(0, 0, 8), 128);
        Check.due("2: pixel(2, 11)", x.pixel(2, 11), 255);
        Check.due("2: pixel(11, 2)", x.pixel(11, 2), 128);
        Check.due("2: pixel(15, 15)", x.pixel(15, 15), 7);
        Check.due("2: pixel(0, 0)", x.pixel(0, 0), 8);
        Check.refused("2: put(-1, 0, 1)", x.put(-1, 0, 1));
        Check.refused("2: put(16, 0, 1)", x.put(16, 0, 1));
        Check.refused("2: put(0, -1, 1)", x.put(0, -1, 1));
        Check.refused("2: put(0, 16, 1)", x.put(0, 16, 1));
        Check.refused("2: put(0, 0, -1)", x.put(0, 0, -1));
        Check.refused("2: put(0, 0, 256)", x.put(0, 0, 256));
        Check.refused("2: put(least, 0, 1)", x.put(Integer.MIN_VALUE, 0, 1));
        Check.refused("2: put(0, greatest, 1)", x.put(0, Integer.MAX_VALUE, 1));
        Check.due("2: pixel(0, 0) after refusals", x.pixel(0, 0), 8);
        Check.due("2: pixel(0, 1) after refusals", x.pixel(0, 1), 128);
        Check.due("2: pixel(15, 0) after refusals", x.pixel(15, 0), 128);
    }

    private static void fill() {
        BaselineJpeg x = new BaselineJpeg();
        Check.due("3: fill(3, 9, 40)", x.fill(3, 9, 40), 0);
        for (int k = 0; k < 256; k++) {
            boolean inside = k % 16 >= 3 && k / 16 >= 9;
            Check.due("3: fill(3, 9, 40), pixel " + k, x.pixel(k % 16, k / 16), inside ? 40 : 128);
        }
        Check.due("3: fill(15, 15, 255)", x.fill(15, 15, 255), 0);
        Check.due("3: pixel(15, 15)", x.pixel(15, 15), 255);
        Check.due("3: pixel(14, 15)", x.pixel(14, 15), 40);
        Check.refused("3: fill(-1, 0, 1)", x.fill(-1, 0, 1));
        Check.refused("3: fill(16, 0, 1)", x.fill(16, 0, 1));
        Check.refused("3: fill(0, -1, 1)", x.fill(0, -1, 1));
        Check.refused("3: fill(0, 16, 1)", x.fill(0, 16, 1));
        Check.refused("3: fill(0, 0, -1)", x.fill(0, 0, -1));
        Check.refused("3: fill(0, 0, 256)", x.fill(0, 0, 256));
        Check.due("3: pixel(0, 0) after refusals", x.pixel(0, 0), 128);
        Check.due("3: pixel(15, 15) after refusals", x.pixel(15, 15), 255);
        Check.due("3: fill(0, 0, 0)", x.fill(0, 0, 0), 0);
        Check.due("3: pixel(0, 0)", x.pixel(0, 0), 0);
        Check.due("3: pixel(15, 15)", x.pixel(15, 15), 0);
    }

    private static void ramp() {
        BaselineJpeg x = new BaselineJpeg();
        Check.due("4: ramp(100, -3, 7)", x.ramp(100, -3, 7), 0);
        for (int k = 0; k < 256; k++) {
            Check.due("4: ramp(100, -3, 7), pixel " + k, x.pixel(k % 16, k / 16), 100 - 3 * (k % 16) + 7 * (k / 16));
        }
        Check.refused("4: ramp(-1, 0, 0)", x.ramp(-1, 0, 0));
        Check.refused("4: ramp(256, 0, 0)", x.ramp(256, 0, 0));
        Check.refused("4: ramp(0, -65, 0)", x.ramp(0, -65, 0));
        Check.refused("4: ramp(0, 65, 0)", x.ramp(0, 65, 0));
        Check.refused("4: ramp(0, 0, -65)", x.ramp(0, 0, -65));
        Check.refused("4: ramp(0, 0, 65)", x.ramp(0, 0, 65));
        Check.refused("4: ramp(0, least, 0)", x.ramp(0, Integer.MIN_VALUE, 0));
        Check.due("4: pixel(0, 0) after refusals", x.pixel(0, 0), 100);
        Check.due("4: pixel(15, 15) after refusals", x.pixel(15, 15), 160);
    }

    private static void rampIsCut() {
        BaselineJpeg x = new BaselineJpeg();
        Check.due("4: ramp(255, -64, 0)", x.ramp(255, -64, 0), 0);
        Check.due("4: pixel(0, 9)", x.pixel(0, 9), 255);
        Check.due("4: pixel(3, 9)", x.pixel(3, 9), 63);
        Check.due("4: pixel(4, 9)", x.pixel(4, 9), 0);
        Check.due("4: pixel(15, 9)", x.pixel(15, 9), 0);
        Check.due("4: ramp(0, 0, 64)", x.ramp(0, 0, 64), 0);
        Check.due("4: pixel(9, 0)", x.pixel(9, 0), 0);
        Check.due("4: pixel(9, 3)", x.pixel(9, 3), 192);
        Check.due("4: pixel(9, 4)", x.pixel(9, 4), 255);
        Check.due("4: pixel(9, 15)", x.pixel(9, 15), 255);
        Check.due("4: ramp(0, 64, -64)", x.ramp(0, 64, -64), 0);
        Check.due("4: pixel(15, 15)", x.pixel(15, 15), 0);
        Check.due("4: pixel(15, 12)", x.pixel(15, 12), 192);
    }

    private static void weave() {
        for (int s = 0; s <= 3; s++) {
            BaselineJpeg x = new BaselineJpeg();
            x.fill(0, 0, 10);
            Check.due("5: weave(" + s + ")", x.weave(s), 0);
            for (int k = 0; k < 256; k++) {
                int apart = (k % 16) ^ (k / 16);
                int want = (apart >> s) % 2 == 1 ? 245 : 10;
                Check.due("5: weave(" + s + "), pixel " + k, x.pixel(k % 16, k / 16), want);
            }
        }
        BaselineJpeg x = new BaselineJpeg();
        Check.refused("5: weave(-1)", x.weave(-1));
        Check.refused("5: weave(4)", x.weave(4));
        Check.refused("5: weave(32)", x.weave(32));
        Check.due("5: pixel(1, 0) after refusals", x.pixel(1, 0), 128);
        Check.due("5: weave(0)", x.weave(0), 0);
        Check.due("5: pixel(1, 0)", x.pixel(1, 0), 127);
        Check.due("5: pixel(1, 1)", x.pixel(1, 1), 128);
        Check.due("5: weave(0) again", x.weave(0), 0);
        Check.due("5: pixel(1, 0) again", x.pixel(1, 0), 128);
    }

    private static void pixel() {
        BaselineJpeg x = new BaselineJpeg();
        x.put(4, 13, 77);
        Check.due("6: pixel(4, 13)", x.pixel(4, 13), 77);
        x.store();
        x.lose(0);
        Check.due("6: pixel(4, 13) is of the picture, not of what is shown", x.pixel(4, 13), 77);
        Check.refused("6: pixel(-1, 0)", x.pixel(-1, 0));
        Check.refused("6: pixel(16, 0)", x.pixel(16, 0));
        Check.refused("6: pixel(0, -1)", x.pixel(0, -1));
        Check.refused("6: pixel(0, 16)", x.pixel(0, 16));
        Check.refused("6: pixel(greatest, 0)", x.pixel(Integer.MAX_VALUE, 0));
        Check.refused("6: pixel(0, least)", x.pixel(0, Integer.MIN_VALUE));
    }
}
