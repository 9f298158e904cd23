/** Promises 1 and 26 to 32: a new object, mornings in deed, AN IMAGE, CHANGES. */
public final class DeedTest {
    private static final Check CHECK = new Check("DeedTest");

    public static void main(String[] args) {
        promise1New();
        promise26Morning();
        promise26Ages();
        promise27Mended();
        promise28Led();
        promise29And30Image();
        promise30Parts();
        promise31And32Undo();
        promise31Forty();
        promise31Deeds();
        CHECK.end();
    }

    private static void due(String call, long got, long want) {
        CHECK.due(call, got, want);
    }

    private static void promise1New() {
        WokenByKettle x = new WokenByKettle();
        for (int what = 0; what < 5; what++) {
            due("count " + what, x.count(what), 0);
        }
        for (int what = 0; what < 6; what++) {
            due("led " + what, x.led(what), 0);
        }
        int[] kitchen = {0, 0, 60, 1, 2, 0, 0};
        for (int what = 6; what < 13; what++) {
            due("of " + what, x.of(0, what), kitchen[what - 6]);
        }
        for (int shelf = 0; shelf < 6; shelf++) {
            due("shelf " + shelf, x.taken(shelf, 0), -11);
        }
        due("image", x.back(), -5);
        due("changes", x.undo(), -5);
        due("trace", x.trace(0), -1);
        WokenByKettle y = new WokenByKettle();
        x.part(0, 1201);
        x.body(0);
        x.keep(0, 0);
        due("each is for itself", y.count(0), 0);
        due("each is for itself", y.taken(0, 0), -11);
    }

    /** Two at once, then the end; the second one stops the fire of the first. */
    private static WokenByKettle three() {
        WokenByKettle x = new WokenByKettle();
        x.part(0, 610);
        x.part(0, 905);
        x.part(3, 1207);
        x.mend(0, 12, 1);
        return x;
    }

    private static void promise26Morning() {
        WokenByKettle x = three();
        due("all", x.morning(7), 17);
        due("bits of none", x.morning(511), 17);
        due("one lacks", x.morning(5), -2);
        due("below", x.morning(-1), -1);
        due("above", x.morning(512), -1);
        due("mornings", x.led(0), 3);
        due("age", x.of(0, 5), 3);
        x.mend(0, 2, 0);
        due("told, whatever the odds", x.morning(7), 17);
        WokenByKettle y = new WokenByKettle();
        due("no parts", y.morning(3), -2);
        due("goes by all the same", y.led(0), 1);
    }

    private static void promise26Ages() {
        WokenByKettle x = three();
        x.mend(1, 5, 98);
        x.morning(0);
        due("99", x.of(1, 5), 99);
        x.morning(7);
        due("99 at most", x.of(1, 5), 99);
        due("the others", x.of(2, 5), 2);
        x.part(0, 1201);
        x.morning(7);
        due("the new one", x.of(3, 5), 1);
        due("the end is another", x.led(1), 1);
    }

    private static void promise27Mended() {
        WokenByKettle x = three();
        x.mend(1, 5, 42);
        due("was", x.mended(1), 42);
        due("now", x.of(1, 5), 0);
        due("again", x.mended(1), 0);
        due("mends", x.led(5), 2);
        due("none", x.mended(3), -1);
        due("below", x.mended(-1), -1);
        due("mends", x.led(5), 2);
    }

    private static void promise28Led() {
        WokenByKettle x = three();
        x.morning(7);
        x.morning(1);
        x.morning(0);
        x.morning(3);
        x.mended(0);
        int[] want = {4, 1, 17, 1 + 2 + 1, 1, 1};
        for (int what = 0; what < 6; what++) {
            due("led " + what, x.led(what), want[what]);
        }
        due("below", x.led(-1), -1);
        due("above", x.led(6), -1);
        x.mend(0, 12, 8);
        x.morning(7);
        due("nothing stops it", x.led(4), 2);
        due("minutes", x.led(2), 34);
        x.mend(0, 11, 7);
        x.morning(7);
        due("nothing burns", x.led(4), 2);
    }

    private static void promise29And30Image() {
        WokenByKettle x = three();
        due("none", x.back(), -5);
        x.morning(7);
        x.mended(0);
        due("image", x.image(), 1);
        x.morning(1);
        x.mend(0, 2, 3);
        x.mended(1);
        due("later", x.led(0), 2);
        due("back", x.back(), 1);
        int[] want = {1, 1, 17, 0, 0, 1};
        for (int what = 0; what < 6; what++) {
            due("led " + what, x.led(what), want[what]);
        }
        due("age 0", x.of(0, 5), 0);
        due("age 1", x.of(1, 5), 1);
        due("no number but ages", x.of(0, 2), 3);
        x.morning(1);
        due("back again", x.back(), 1);
        due("age 1", x.of(1, 5), 1);
        x.morning(7);
        due("another image", x.image(), 2);
        x.morning(7);
        due("back to it", x.back(), 2);
        due("minutes", x.led(2), 34);
        due("changes are kept", x.count(2), 2);
    }

    private static void promise30Parts() {
        WokenByKettle x = three();
        x.morning(7);
        x.image();
        x.part(0, 1201);
        x.morning(7);
        x.morning(7);
        due("back", x.back(), 1);
        due("a part of then", x.of(2, 5), 1);
        due("a part since", x.of(3, 5), 2);
    }

    private static void promise31And32Undo() {
        WokenByKettle x = three();
        due("count", x.count(2), 1);
        due("undo", x.undo(), 0);
        due("stops", x.of(0, 12), 0);
        due("none", x.undo(), -5);
        due("redo", x.redo(), 0);
        due("stops", x.of(0, 12), 1);
        due("none", x.redo(), -5);
        x.mend(0, 2, 4);
        x.mend(0, 2, 4);
        x.mend(0, 2, 5);
        x.mend(0, 2, 13);
        due("telling the same is none", x.count(2), 3);
        due("undo", x.undo(), 2);
        due("4 again", x.of(0, 2), 4);
        due("undo", x.undo(), 1);
        due("6 again", x.of(0, 2), 6);
        x.mend(0, 2, 6);
        due("the same leaves it", x.redo(), 1);
        due("4", x.of(0, 2), 4);
        x.part(0, 1201);
        due("a part is no change", x.redo(), 0);
        due("5", x.of(0, 2), 5);
        x.undo();
        x.mend(1, 3, 9);
        due("another came behind", x.redo(), -5);
        due("undo", x.undo(), 2);
        due("takes", x.of(1, 3), 5);
        due("works", x.of(0, 2), 4);
    }

    private static void promise31Forty() {
        WokenByKettle x = three();
        for (int i = 0; i < 45; i++) {
            x.mend(0, 8, 100 + i);
        }
        due("40 at most", x.count(2), 40);
        WokenByKettle y = three();
        int[] whats = {2, 3, 4};
        for (int i = 0; i < 60; i++) {
            y.mend(i % 3, whats[i / 3 % 3], 1 + i / 9);
        }
        for (int i = 59; i >= 20; i--) {
            due("change " + i, y.of(i % 3, whats[i / 3 % 3]), 1 + i / 9);
            due("undo", y.undo(), i - 20);
            due("change " + i + " undone", y.of(i % 3, whats[i / 3 % 3]), i / 9);
        }
        due("none", y.undo(), -5);
        for (int i = 39; i >= 0; i--) {
            due("undo", x.undo(), i);
            due("ready", x.of(0, 8), 104 + i);
        }
        due("no more", x.undo(), -5);
        due("stops stays", x.of(0, 12), 1);
        for (int i = 39; i >= 0; i--) {
            due("redo", x.redo(), i);
            due("ready", x.of(0, 8), 144 - i);
        }
        due("no more", x.redo(), -5);
    }

    private static void promise31Deeds() {
        WokenByKettle x = three();
        x.mend(0, 5, 50);
        x.morning(7);
        x.mended(1);
        x.image();
        x.back();
        due("deeds are none", x.count(2), 2);
        due("undo", x.undo(), 1);
        due("age as it was told", x.of(0, 5), 0);
        x.morning(7);
        due("redo behind a deed", x.redo(), 0);
        due("age as it is told", x.of(0, 5), 50);
        due("others", x.of(2, 5), 2);
        due("led stays", x.led(0), 2);
    }
}
