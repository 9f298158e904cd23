import java.io.IOException;

/** One test for each sentence of promises 26 to 32, and of the Terms about deeds, that names an edge. */
public final class EdgesDeedTest {
    private static final Check CHECK = new Check("EdgesDeedTest");
    private static final int LOWEST = Integer.MIN_VALUE, HIGHEST = Integer.MAX_VALUE;

    public static void main(String[] args) throws IOException {
        aMorningWithoutTheEnd();
        agesNinetyNineAtMost();
        mendedAgeZero();
        ledAtFirst();
        ledStuckOnes();
        ledFires();
        sameNumberIsNone();
        theLatestFirst();
        noOtherCameBehind();
        fortyAtMost();
        fortyOfManySorts();
        fortyUndoneAndDoneAgain();
        deedsAreNone();
        imageKeepsAges();
        morningBad();
        morningNot();
        mendedBad();
        ledBad();
        imageMornings();
        backWithoutImage();
        backPartsSince();
        undoNone();
        redoNone();
        CHECK.end();
    }

    private static void due(String call, long got, long want) {
        CHECK.due(call, got, want);
    }

    /** Two at once, then THE END; nothing stops what burns. */
    private static WokenByKettle three() {
        WokenByKettle x = Given.parts(0, 610, 0, 905, 3, 1207);
        x.mend(0, 12, 8);
        return x;
    }

    private static void led(WokenByKettle x, int... want) {
        for (int what = 0; what < want.length; what++) {
            due("led(" + what + ")", x.led(what), want[what]);
        }
    }

    // ---- Terms: in deed

    private static void aMorningWithoutTheEnd() throws IOException {
        CHECK.about(0, "(but a MORNING without THE END: it answers NOT, and goes by all the same)");
        WokenByKettle x = three();
        due("THE END is stuck", x.morning(3), -2);
        led(x, 1, 0, 0, 1, 1, 0);
        due("AGE", x.of(2, 5), 1);
        due("nothing works", x.morning(0), -2);
        led(x, 2, 0, 0, 3, 1, 0);
        due("AGE", x.of(0, 5), 2);
        WokenByKettle y = new WokenByKettle();
        due("no PARTS", y.morning(0), -2);
        due("no PARTS, all bits", y.morning(511), -2);
        led(y, 2, 0, 0, 0, 0, 0);
    }

    private static void agesNinetyNineAtMost() throws IOException {
        CHECK.about(0, "AGE of all one more (99 at most)");
        WokenByKettle x = three();
        x.mend(0, 5, 97);
        x.mend(1, 5, 99);
        int[][] want = {{98, 99, 1}, {99, 99, 2}, {99, 99, 3}};
        for (int[] ages : want) {
            x.morning(7);
            for (int i = 0; i < 3; i++) {
                due("AGE of " + i, x.of(i, 5), ages[i]);
            }
        }
        WokenByKettle y = Given.chain(9, 1201);
        for (int i = 0; i < 120; i++) {
            y.morning(0);
        }
        due("the first of nine", y.of(0, 5), 99);
        due("the last of nine", y.of(8, 5), 99);
        due("mornings are more", y.led(0), 120);
    }

    private static void mendedAgeZero() throws IOException {
        CHECK.about(0, "a PART is MENDED: AGE 0.");
        WokenByKettle x = three();
        x.mend(0, 5, 99);
        x.mend(1, 5, 1);
        due("99", x.mended(0), 99);
        due("1", x.mended(1), 1);
        due("0", x.mended(2), 0);
        for (int i = 0; i < 3; i++) {
            due("AGE of " + i, x.of(i, 5), 0);
        }
        led(x, 0, 0, 0, 0, 0, 3);
    }

    private static void ledAtFirst() throws IOException {
        CHECK.about(0, "LED: mornings, ends, minutes of them, STUCK ones, fires (BURNS went, STOPS did not), mends.");
        led(new WokenByKettle(), 0, 0, 0, 0, 0, 0);
        WokenByKettle x = Given.chain(9, 1260);
        for (int i = 0; i < 100; i++) {
            x.morning(511);
        }
        led(x, 100, 100, 54000, 0, 0, 0);
    }

    private static void ledStuckOnes() throws IOException {
        CHECK.about(0, "minutes of them, STUCK ones");
        WokenByKettle x = Given.parts(0, 101, 0, 101, 0, 101, 0, 101, 0, 101, 0, 101, 0, 101, 0, 101, 0, 101);
        x.morning(0);
        due("all nine", x.led(3), 9);
        x.morning(511);
        due("none more", x.led(3), 9);
        x.morning(255);
        due("THE END too", x.led(3), 10);
    }

    private static void ledFires() throws IOException {
        CHECK.about(0, "fires (BURNS went, STOPS did not)");
        WokenByKettle x = Given.parts(0, 610, 0, 905);
        x.morning(3);
        due("one and the same", x.led(4), 0);
        x.mend(0, 12, 1);
        x.morning(1);
        due("it burns", x.led(4), 1);
        x.morning(3);
        x.morning(2);
        x.morning(0);
        due("it is stopped, or does not burn", x.led(4), 1);
        x.mend(0, 12, 2);
        x.morning(3);
        due("STOPS is none", x.led(4), 2);
        x.mend(0, 11, 2);
        x.morning(3);
        due("both are none", x.led(4), 2);
        x.mend(0, 12, 0);
        x.morning(511);
        due("BURNS is none, whatever the bits", x.led(4), 2);
    }

    private static void sameNumberIsNone() throws IOException {
        CHECK.about(0, "CHANGES (all numbers of mend(); telling the same number is none)");
        WokenByKettle x = Given.parts(0, 1201, 0, 1201);
        int[] other = {1, 1, 5, 9, 9, 9, 9, 1, 300, 20, 20, 8, 8};
        for (int what = 0; what < 13; what++) {
            int number = what < 6 ? 1 : 0;
            due("the same", x.mend(number, what, x.of(number, what)), x.of(number, what));
            due("none for " + what, x.count(2), what);
            x.mend(number, what, other[what]);
            due("one for " + what, x.count(2), what + 1);
            x.mend(number, what, other[what]);
            due("the same again", x.count(2), what + 1);
        }
        for (int what = 12; what >= 0; what--) {
            int number = what < 6 ? 1 : 0;
            due("there", x.of(number, what), other[what]);
            due("undone", x.undo(), what);
        }
        due("a PART's first numbers are none", x.undo(), -5);
    }

    private static void theLatestFirst() throws IOException {
        CHECK.about(0, "can be UNDONE, the latest first");
        WokenByKettle x = Given.parts(0, 1201);
        x.mend(0, 2, 5);
        x.mend(0, 3, 9);
        x.mend(0, 2, 6);
        due("undo", x.undo(), 2);
        due("5 again", x.of(0, 2), 5);
        due("undo", x.undo(), 1);
        due("1 again", x.of(0, 3), 1);
        due("undo", x.undo(), 0);
        due("12 again", x.of(0, 2), 12);
        due("redo", x.redo(), 2);
        due("5", x.of(0, 2), 5);
        due("redo", x.redo(), 1);
        due("9", x.of(0, 3), 9);
        due("redo", x.redo(), 0);
        due("6", x.of(0, 2), 6);
    }

    private static void noOtherCameBehind() throws IOException {
        CHECK.about(0, "and DONE AGAIN (as long as no other came behind)");
        WokenByKettle x = Given.parts(0, 1201);
        x.mend(0, 2, 5);
        x.mend(0, 3, 9);
        x.undo();
        x.mend(0, 2, 5);
        x.mend(0, 2, 13);
        x.mend(1, 2, 5);
        due("the same, and what is BAD, are none", x.redo(), 0);
        x.undo();
        x.mend(0, 4, 1);
        due("another came", x.redo(), -5);
        due("it is the latest", x.undo(), 1);
        due("it may be done again", x.redo(), 0);
        x.undo();
        x.undo();
        due("all undone", x.count(2), 0);
        x.mend(0, 6, 9);
        due("another came", x.redo(), -5);
        due("one", x.count(2), 1);
    }

    private static void fortyAtMost() throws IOException {
        CHECK.about(0, "40 at most are kept");
        WokenByKettle x = new WokenByKettle();
        for (int i = 1; i <= 39; i++) {
            x.mend(0, 8, i);
        }
        due("39", x.count(2), 39);
        x.mend(0, 8, 40);
        due("40", x.count(2), 40);
        x.mend(0, 8, 41);
        due("41, the oldest is lost", x.count(2), 40);
        for (int i = 39; i >= 0; i--) {
            due("undo", x.undo(), i);
            due("READY", x.of(0, 8), i + 1);
        }
        due("the oldest cannot be undone", x.undo(), -5);
        due("READY as the oldest left it", x.of(0, 8), 1);
    }

    private static void fortyOfManySorts() throws IOException {
        CHECK.about(0, "40 at most are kept");
        WokenByKettle x = three();
        x.undo();
        int[] whats = {2, 3, 4};
        for (int i = 0; i < 60; i++) {
            x.mend(i % 3, whats[i / 3 % 3], 1 + i / 9);
        }
        for (int i = 59; i >= 20; i--) {
            due("change " + i, x.of(i % 3, whats[i / 3 % 3]), 1 + i / 9);
            due("undo", x.undo(), i - 20);
            due("change " + i + " undone", x.of(i % 3, whats[i / 3 % 3]), i / 9);
        }
        due("none more", x.undo(), -5);
    }

    private static void fortyUndoneAndDoneAgain() throws IOException {
        CHECK.about(0, "40 at most are kept");
        WokenByKettle x = new WokenByKettle();
        for (int i = 1; i <= 45; i++) {
            x.mend(0, 8, i);
        }
        for (int i = 0; i < 40; i++) {
            x.undo();
        }
        for (int i = 39; i >= 0; i--) {
            due("redo", x.redo(), i);
            due("READY", x.of(0, 8), 45 - i);
        }
        due("none more", x.redo(), -5);
        due("forty again", x.count(2), 40);
        for (int i = 0; i < 10; i++) {
            x.undo();
        }
        x.mend(0, 8, 200);
        due("31 behind ten undone", x.count(2), 31);
        due("none to be done again", x.redo(), -5);
    }

    private static void deedsAreNone() throws IOException {
        CHECK.about(0, "deeds are none (AGE by them, too)");
        WokenByKettle x = three();
        x.undo();
        due("none", x.count(2), 0);
        x.morning(7);
        x.mended(0);
        x.image();
        x.morning(0);
        x.back();
        due("none yet", x.count(2), 0);
        due("none to undo", x.undo(), -5);
        due("the undone one may be done again", x.redo(), 0);
        x.mend(1, 5, 50);
        x.morning(7);
        due("51", x.of(1, 5), 51);
        due("undo", x.undo(), 1);
        due("AGE as it was told", x.of(1, 5), 1);
    }

    private static void imageKeepsAges() throws IOException {
        CHECK.about(0, "AN IMAGE keeps AGES, what LED tells.");
        WokenByKettle x = three();
        x.mend(0, 5, 99);
        x.morning(7);
        x.mended(1);
        x.image();
        x.morning(0);
        x.mended(0);
        x.mend(1, 5, 77);
        x.mend(0, 2, 1);
        x.mend(0, 6, 9);
        x.back();
        led(x, 1, 1, 17, 0, 1, 1);
        int[] ages = {99, 0, 1};
        for (int i = 0; i < 3; i++) {
            due("AGE of " + i, x.of(i, 5), ages[i]);
        }
        due("no other number", x.of(0, 2), 1);
        due("no other number", x.of(0, 6), 9);
    }

    // ---- promises 26 to 32

    private static void morningBad() throws IOException {
        CHECK.about(26, "A MORNING: the minute THE END came. BAD; NOT.");
        WokenByKettle x = three();
        due("-1", x.morning(-1), -1);
        due("512", x.morning(512), -1);
        due("lowest", x.morning(LOWEST), -1);
        due("highest", x.morning(HIGHEST), -1);
        led(x, 0, 0, 0, 0, 0, 0);
        due("none went by", x.of(0, 5), 0);
        due("511", x.morning(511), 17);
        due("0", x.morning(0), -2);
    }

    private static void morningNot() throws IOException {
        CHECK.about(26, "BAD; NOT.");
        WokenByKettle x = three();
        int[] want = {-2, -2, -2, -2, -2, -2, -2, 17};
        for (int set = 0; set < 8; set++) {
            due("morning(" + set + ")", x.morning(set), want[set]);
            due("one more", x.led(0), set + 1);
        }
    }

    private static void mendedBad() throws IOException {
        CHECK.about(27, "A PART is MENDED: what its AGE was. BAD.");
        WokenByKettle x = three();
        due("-1", x.mended(-1), -1);
        due("none yet", x.mended(3), -1);
        due("9", x.mended(9), -1);
        due("lowest", x.mended(LOWEST), -1);
        due("highest", x.mended(HIGHEST), -1);
        due("no PARTS", new WokenByKettle().mended(0), -1);
        due("no mends", x.led(5), 0);
    }

    private static void ledBad() throws IOException {
        CHECK.about(28, "fires (4), mends (5). BAD.");
        WokenByKettle x = three();
        due("-1", x.led(-1), -1);
        due("6", x.led(6), -1);
        due("lowest", x.led(LOWEST), -1);
        due("highest", x.led(HIGHEST), -1);
        due("0", x.led(0), 0);
        due("5", x.led(5), 0);
    }

    private static void imageMornings() throws IOException {
        CHECK.about(29, "AN IMAGE is kept: mornings.");
        WokenByKettle x = new WokenByKettle();
        due("none yet", x.image(), 0);
        x.morning(0);
        x.morning(0);
        due("two", x.image(), 2);
        x.morning(0);
        due("laid back", x.back(), 2);
        due("the latest image alone", x.image(), 2);
    }

    private static void backWithoutImage() throws IOException {
        CHECK.about(30, "STATE: there is none.");
        WokenByKettle x = three();
        due("none", x.back(), -5);
        x.morning(7);
        due("none still", x.back(), -5);
        due("nothing was laid back", x.led(0), 1);
        x.image();
        due("one", x.back(), 1);
        due("it is kept", x.back(), 1);
        WokenByKettle y = new WokenByKettle();
        y.image();
        due("one of no PARTS", y.back(), 0);
    }

    private static void backPartsSince() throws IOException {
        CHECK.about(30, "It is laid back (PARTS that came since: AGE as it is): mornings.");
        WokenByKettle x = new WokenByKettle();
        x.image();
        x.part(0, 1201);
        x.morning(1);
        x.morning(1);
        due("back", x.back(), 0);
        due("the first came since", x.of(0, 5), 2);
        led(x, 0, 0, 0, 0, 0, 0);
        x.image();
        for (int i = 1; i < 9; i++) {
            x.part(0, 1201);
        }
        x.morning(511);
        x.back();
        due("of then", x.of(0, 5), 2);
        for (int i = 1; i < 9; i++) {
            due("since", x.of(i, 5), 1);
        }
    }

    private static void undoNone() throws IOException {
        CHECK.about(31, "UNDONE: how many may still be. STATE: none.");
        WokenByKettle x = Given.parts(0, 1201);
        due("none", x.undo(), -5);
        x.mend(0, 2, 5);
        due("the last one", x.undo(), 0);
        due("none more", x.undo(), -5);
        due("as it was", x.of(0, 2), 12);
    }

    private static void redoNone() throws IOException {
        CHECK.about(32, "DONE AGAIN: how many may still be. STATE: none.");
        WokenByKettle x = Given.parts(0, 1201);
        due("none", x.redo(), -5);
        x.mend(0, 2, 5);
        due("none undone", x.redo(), -5);
        x.undo();
        due("the last one", x.redo(), 0);
        due("none more", x.redo(), -5);
        due("as it was told", x.of(0, 2), 5);
    }
}
