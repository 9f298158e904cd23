/** What tests of single sentences begin with. */
final class Given {
    private Given() {
    }

    /** A kitchen of PARTS, each told by AHEAD and by 100 times WORKS and TAKES. */
    static WokenByKettle parts(int... aheadAndWt) {
        WokenByKettle x = new WokenByKettle();
        for (int i = 0; i + 1 < aheadAndWt.length; i += 2) {
            x.part(aheadAndWt[i], aheadAndWt[i + 1]);
        }
        return x;
    }

    /** So many PARTS, each of which waits for all ahead of it. */
    static WokenByKettle chain(int n, int wt) {
        WokenByKettle x = new WokenByKettle();
        for (int i = 0; i < n; i++) {
            x.part((1 << i) - 1, wt);
        }
        return x;
    }

    static void tape(WokenByKettle x, String text) {
        for (int i = 0; i < text.length(); i++) {
            x.feed(text.charAt(i));
        }
    }

    static int law(WokenByKettle x, String text) {
        tape(x, text);
        return x.law();
    }

    static void row(WokenByKettle x, int shelf, int sort, long... values) {
        x.row(shelf, sort, values.length);
        for (int i = 0; i < values.length; i++) {
            x.put(shelf, i, values[i]);
        }
    }

    static void shorts(WokenByKettle x, int shelf, long... values) {
        row(x, shelf, 1, values);
    }

    static int told(int seen, int gone) {
        return 512 * seen + gone;
    }
}
