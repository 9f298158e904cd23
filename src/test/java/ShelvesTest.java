/** Promises 33 to 42: BODIES, ACTS, SHELVES and count. */
public final class ShelvesTest {
    private static final Check CHECK = new Check("ShelvesTest");
    private static final long MIN = Long.MIN_VALUE;

    public static void main(String[] args) {
        promise33Body();
        promise34Starts();
        promise34Takes();
        promise34Fails();
        promise34Tells();
        promise34Edges();
        promise35Trace();
        promise36Keep();
        promise37Row();
        promise38Put();
        promise39Element();
        promise40Shift();
        promise40Refusals();
        promise41Taken();
        promise42Count();
        CHECK.end();
    }

    private static void due(String call, long got, long want) {
        CHECK.due(call, got, want);
    }

    private static void promise33Body() {
        WokenByKettle x = new WokenByKettle();
        due("below", x.body(-1), -1);
        due("above", x.body(8), -1);
        for (int i = 0; i < 50; i++) {
            due("body " + i, x.body(i % 8), i);
        }
        due("full", x.body(0), -3);
        due("bad ahead of full", x.body(8), -1);
        due("fifty", x.count(3), 50);
    }

    /** One of each KIND, its number that of the KIND. */
    private static WokenByKettle eight() {
        WokenByKettle x = new WokenByKettle();
        for (int kind = 0; kind < 8; kind++) {
            x.body(kind);
        }
        return x;
    }

    private static void acts(int act, int x, int[] want, int[][] traces) {
        WokenByKettle w = eight();
        for (int kind = 0; kind < 8; kind++) {
            due("act(" + kind + ", " + act + ", " + x + ")", w.act(kind, act, x), want[kind]);
            due("how many ran", w.count(4), traces[kind].length);
            for (int i = 0; i < traces[kind].length; i++) {
                due("trace " + i + " of " + kind, w.trace(i), traces[kind][i]);
            }
            due("behind the trace", w.trace(traces[kind].length), -1);
        }
    }

    private static void promise34Starts() {
        acts(0, 100, new int[] {100, 104, 102, 103, 107, 105, 212, 213}, new int[][] {
            {1}, {20, 1}, {1}, {1}, {20, 1}, {1}, {70, 1}, {81, 70, 1}});
        WokenByKettle x = eight();
        due("it wraps", x.act(5, 0, Integer.MAX_VALUE), Integer.MIN_VALUE + 4);
        due("it wraps", x.act(6, 0, Integer.MAX_VALUE), 10);
    }

    private static void promise34Takes() {
        acts(1, 100, new int[] {200, 208, -204, -208, 214, -212, 424, 431}, new int[][] {
            {10, 1}, {10, 20, 1}, {30, 10, 1}, {41, 30, 10, 1}, {10, 20, 1}, {41, 30, 10, 1}, {10, 70, 1},
            {80, 10, 81, 70, 1, 11}});
    }

    private static void promise34Fails() {
        acts(2, 100, new int[] {100, 101, 102, 309, 96, 97 * 3 - 7, 98, 99}, new int[][] {
            {11}, {11}, {11}, {40, 11}, {11}, {60, 40, 11, 1}, {11}, {11}});
    }

    private static void promise34Tells() {
        // takes(x) less fails(1), of each its own
        int[] fails = {1, 0, 3, 6, 5, 4 * 3 - 7, 7, 6};
        acts(3, 100, new int[] {200 - fails[0], 208 - fails[1], -204 - fails[2], -208 - fails[3], (214 - fails[4]) ^ 5,
            -212 - fails[5] + 1, 424 - fails[6], 431 - fails[7]}, new int[][] {
            {2, 10, 1, 11}, {2, 10, 20, 1, 11}, {2, 30, 10, 1, 11}, {2, 41, 30, 10, 1, 40, 11}, {50, 2, 10, 20, 1, 11},
            {61, 2, 41, 30, 10, 1, 60, 40, 11, 1}, {2, 10, 70, 1, 11}, {2, 80, 10, 81, 70, 1, 11, 11}});
    }

    private static void promise34Edges() {
        WokenByKettle x = eight();
        due("ran", x.act(0, 0, 5), 5);
        due("no such body", x.act(8, 0, 5), 0);
        due("no trace", x.trace(0), -1);
        due("none ran", x.count(4), 0);
        x.act(0, 0, 5);
        due("no such act", x.act(0, 4, 5), 0);
        due("no trace", x.trace(0), -1);
        x.act(0, 0, 5);
        due("body below", x.act(-1, 0, 5), 0);
        due("none ran", x.count(4), 0);
        due("act below", x.act(0, -1, 5), 0);
        x.body(0);
        due("the number counts, not the kind", x.act(8, 0, 5), 13);
    }

    private static void promise35Trace() {
        WokenByKettle x = eight();
        due("nothing yet", x.trace(0), -1);
        x.act(7, 3, 1);
        due("first", x.trace(0), 2);
        due("last", x.trace(7), 11);
        due("behind", x.trace(8), -1);
        due("below", x.trace(-1), -1);
        due("above", x.trace(24), -1);
        due("highest", x.trace(Integer.MAX_VALUE), -1);
        x.act(0, 0, 1);
        due("the latest alone", x.trace(0), 1);
        due("the latest alone", x.trace(1), -1);
    }

    private static void promise36Keep() {
        WokenByKettle x = eight();
        due("keep", x.keep(0, 7), 1);
        due("holds", x.taken(0, 7), 7);
        due("nothing", x.keep(0, -1), 1);
        due("holds nothing", x.taken(0, 7), -11);
        due("no such body", x.keep(0, 8), -1);
        due("below", x.keep(0, -2), -1);
        due("shelf below", x.keep(-1, 0), -1);
        due("shelf above", x.keep(6, 0), -1);
        due("nothing on no shelf", x.keep(6, -1), -1);
        due("last shelf", x.keep(5, 1), 1);
        x.row(0, 1, 3);
        due("instead of a row", x.keep(0, 2), 1);
        due("no row", x.element(0, 0), MIN);
        due("bad changes nothing", x.keep(0, 9), -1);
        due("still there", x.taken(0, 2), 2);
    }

    private static void promise37Row() {
        WokenByKettle x = eight();
        due("row", x.row(0, 1, 60), 1);
        due("zero at first", x.element(0, 59), 0);
        due("its end", x.element(0, 60), MIN);
        due("61", x.row(0, 1, 61), -1);
        due("below 0", x.row(0, 1, -1), -14);
        due("lowest", x.row(0, 1, Integer.MIN_VALUE), -14);
        due("bad sort ahead", x.row(0, 5, -1), -1);
        due("sort below", x.row(0, -1, 0), -1);
        due("sort above", x.row(0, 5, 0), -1);
        due("shelf below", x.row(-1, 0, 0), -1);
        due("shelf above", x.row(6, 0, -1), -1);
        x.put(0, 3, 7);
        due("nothing changed", x.element(0, 3), 7);
        due("a new one", x.row(0, 2, 4), 1);
        due("zero at first", x.element(0, 3), 0);
        due("of its size", x.element(0, 4), MIN);
        due("empty", x.row(0, 3, 0), 1);
        due("empty", x.element(0, 0), MIN);
        x.keep(1, 3);
        due("instead of a body", x.row(1, 4, 2), 1);
        due("false at first", x.element(1, 1), 0);
        due("no body", x.taken(1, 0), -12);
    }

    private static void promise38Put() {
        WokenByKettle x = eight();
        long v = 0x123456789ABCDEF0L;
        long[] want = {(byte) v, (short) v, (int) v, v, 1};
        for (int sort = 0; sort < 5; sort++) {
            x.row(0, sort, 3);
            due("put", x.put(0, 2, v), 1);
            due("sort " + sort, x.element(0, 2), want[sort]);
            due("beside it", x.element(0, 1), 0);
            due("below 0", x.put(0, 1, -1), 1);
            due("below 0, sort " + sort, x.element(0, 1), sort == 4 ? 1 : -1);
            due("lowest", x.put(0, 1, MIN), 1);
            due("lowest, sort " + sort, x.element(0, 1), sort == 4 ? 1 : sort == 3 ? MIN : 0);
            due("to 0", x.put(0, 2, 0), 1);
            due("0", x.element(0, 2), 0);
        }
        due("behind", x.put(0, 3, 1), -13);
        due("ahead", x.put(0, -1, 1), -13);
        due("nothing there", x.put(1, 0, 1), -11);
        x.keep(1, 0);
        due("a body", x.put(1, 0, 1), -12);
        due("a body ahead of the place", x.put(1, -1, 1), -12);
        due("shelf below", x.put(-1, 0, 1), -1);
        due("shelf above", x.put(6, 0, 1), -1);
    }

    private static void promise39Element() {
        WokenByKettle x = eight();
        x.row(0, 0, 2);
        x.put(0, 1, 200);
        due("a byte", x.element(0, 1), -56);
        due("behind", x.element(0, 2), MIN);
        due("ahead", x.element(0, -1), MIN);
        due("highest", x.element(0, Integer.MAX_VALUE), MIN);
        due("nothing there", x.element(1, 0), MIN);
        x.keep(1, 0);
        due("a body", x.element(1, 0), MIN);
        due("a body, no place", x.element(1, -1), MIN);
        due("shelf below", x.element(-1, 0), MIN);
        due("shelf above", x.element(6, 0), MIN);
        due("a shelf of a new object", new WokenByKettle().element(5, 59), MIN);
        for (int sort = 0; sort < 5; sort++) {
            x.row(2, sort, 1);
            due("behind, sort " + sort, x.element(2, 1), MIN);
            for (int refusal = -14; sort < 4 && refusal <= -11; refusal++) {
                x.put(2, 0, refusal);
                due("an element like a refusal, sort " + sort, x.element(2, 0), refusal);
            }
        }
        x.keep(2, -1);
        due("nothing any more", x.element(2, 0), MIN);
    }

    private static void line(WokenByKettle x, int shelf, int sort, int n) {
        x.row(shelf, sort, n);
        for (int i = 0; i < n; i++) {
            x.put(shelf, i, i + 1);
        }
    }

    private static void holds(WokenByKettle x, int shelf, int... want) {
        for (int i = 0; i < want.length; i++) {
            due("place " + i, x.element(shelf, i), want[i]);
        }
    }

    private static void promise40Shift() {
        WokenByKettle x = eight();
        line(x, 0, 1, 6);
        due("upward", x.shift(0, 0, 0, 1, 5), 5);
        holds(x, 0, 1, 1, 2, 3, 4, 5);
        line(x, 0, 1, 6);
        due("downward", x.shift(0, 1, 0, 0, 5), 5);
        holds(x, 0, 2, 3, 4, 5, 6, 6);
        line(x, 1, 1, 3);
        due("to another", x.shift(1, 1, 0, 4, 2), 2);
        holds(x, 0, 2, 3, 4, 5, 2, 3);
        holds(x, 1, 1, 2, 3);
        due("all", x.shift(1, 0, 0, 0, 3), 3);
        holds(x, 0, 1, 2, 3, 5, 2, 3);
        due("none at the end", x.shift(1, 3, 0, 6, 0), 0);
        due("one too many here", x.shift(1, 1, 0, 0, 3), -13);
        due("one too many there", x.shift(0, 0, 1, 0, 4), -13);
        due("behind the end", x.shift(1, 4, 0, 0, 0), -13);
        due("behind the end there", x.shift(1, 0, 0, 7, 0), -13);
        due("ahead", x.shift(1, -1, 0, 0, 1), -13);
        due("ahead there", x.shift(1, 0, 0, -1, 1), -13);
        due("n below 0", x.shift(1, 1, 0, 1, -1), -13);
        due("lowest", x.shift(1, 0, 0, 0, Integer.MIN_VALUE), -13);
        due("highest", x.shift(1, 1, 0, 1, Integer.MAX_VALUE), -13);
        due("highest place", x.shift(1, Integer.MAX_VALUE, 0, 0, 2), -13);
        holds(x, 0, 1, 2, 3, 5, 2, 3);
    }

    private static void promise40Refusals() {
        WokenByKettle x = eight();
        line(x, 0, 0, 3);
        line(x, 1, 4, 3);
        due("unlike sorts", x.shift(0, 0, 1, 0, 1), -12);
        due("unlike sorts ahead of the place", x.shift(0, -1, 1, 0, 1), -12);
        due("nothing there", x.shift(0, 0, 2, 0, 1), -11);
        due("nothing here", x.shift(2, 0, 0, 0, 1), -11);
        x.keep(3, 0);
        due("a body there", x.shift(0, 0, 3, 0, 1), -12);
        due("a body here", x.shift(3, 0, 0, 0, 1), -12);
        due("two bodies", x.shift(3, 0, 3, 0, 1), -12);
        due("nothing ahead of a body", x.shift(3, 0, 2, 0, 1), -11);
        due("nothing ahead of a body", x.shift(2, 0, 3, 0, 1), -11);
        due("shelf below", x.shift(-1, 0, 0, 0, 1), -1);
        due("other below", x.shift(0, 0, -1, 0, 1), -1);
        due("shelf above, other nothing", x.shift(6, 0, 2, 0, 1), -1);
        due("nothing, other above", x.shift(2, 0, 6, 0, 1), -1);
        line(x, 2, 4, 2);
        due("alike", x.shift(1, 0, 2, 0, 2), 2);
    }

    private static void promise41Taken() {
        WokenByKettle x = eight();
        int[][] above = {{0}, {1, 0}, {2, 0}, {3, 2, 0}, {4, 1, 0}, {5, 3, 2, 0}, {6, 0}, {7, 6, 0}};
        for (int kind = 0; kind < 8; kind++) {
            x.keep(0, kind);
            for (int k = 0; k < 8; k++) {
                boolean under = false;
                for (int up : above[kind]) {
                    under |= up == k;
                }
                due("taken " + kind + " for " + k, x.taken(0, k), under ? kind : -12);
            }
        }
        due("k below", x.taken(0, -1), -1);
        due("k above", x.taken(0, 8), -1);
        due("shelf below", x.taken(-1, 0), -1);
        due("shelf above", x.taken(6, 0), -1);
        due("nothing there", x.taken(1, 0), -11);
        due("bad ahead of nothing", x.taken(1, 8), -1);
        x.row(1, 1, 2);
        due("a row", x.taken(1, 0), -12);
    }

    private static void promise42Count() {
        WokenByKettle x = new WokenByKettle();
        x.part(0, 1201);
        x.part(0, 1201);
        x.feed('w');
        x.feed('+');
        x.feed('1');
        x.mend(0, 6, 3);
        x.mend(0, 7, 1);
        x.mend(0, 8, 30);
        x.undo();
        x.mend(0, 9, 4);
        x.mend(0, 10, 4);
        for (int i = 0; i < 5; i++) {
            x.body(5);
        }
        x.act(4, 3, 1);
        int[] want = {2, 3, 4, 5, 10};
        for (int what = 0; what < 5; what++) {
            due("count " + what, x.count(what), want[what]);
        }
        due("below", x.count(-1), -1);
        due("above", x.count(5), -1);
    }
}
