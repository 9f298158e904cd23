import java.io.IOException;

/** One test for each sentence of promises 33 to 42, and of the Terms about BODIES and SHELVES, that names an edge. */
public final class EdgesShelvesTest {
    private static final Check CHECK = new Check("EdgesShelvesTest");
    private static final int LOWEST = Integer.MIN_VALUE, HIGHEST = Integer.MAX_VALUE;
    private static final long MIN = Long.MIN_VALUE;

    public static void main(String[] args) throws IOException {
        fiftyBodies();
        actsWrap();
        numberOfTheBody();
        nextKindAbove();
        whatBodiesGive();
        traceOfTheLatest();
        firstTwentyFour();
        shelvesAtFirst();
        elementsAtFirst();
        sixtyElements();
        lowestBits();
        bodyBadAndFull();
        actNoSuch();
        traceBad();
        keepNothing();
        keepBad();
        rowBad();
        rowBelowZero();
        putRefusals();
        elementRefusals();
        shiftAsTheyWere();
        shiftNothing();
        shiftUnlike();
        shiftPlaces();
        shiftOrder();
        takenUnder();
        takenRefusals();
        countAll();
        countBad();
        CHECK.end();
    }

    private static void due(String call, long got, long want) {
        CHECK.due(call, got, want);
    }

    /** One of each KIND, its number that of the KIND. */
    private static WokenByKettle eight() {
        WokenByKettle x = new WokenByKettle();
        for (int kind = 0; kind < 8; kind++) {
            x.body(kind);
        }
        return x;
    }

    // ---- Terms: BODIES

    private static void fiftyBodies() throws IOException {
        CHECK.about(0, "BODIES 0 .. 49 are kept by call");
        WokenByKettle x = new WokenByKettle();
        for (int i = 0; i < 50; i++) {
            due("body " + i, x.body(i % 8), i);
        }
        due("a 51st", x.body(0), -3);
        x.keep(0, 49);
        due("the KIND of the last", x.taken(0, 0), 1);
        due("it acts by its number", x.act(49, 0, 0), 52);
        due("no 51st acts", x.act(50, 0, 0), 0);
    }

    private static void actsWrap() throws IOException {
        CHECK.about(0, "ACTS with x (an int that wraps): 0 starts, 1 takes, 2 fails, 3 tells; n its number.");
        WokenByKettle x = eight();
        due("PART 0 starts, highest", x.act(0, 0, HIGHEST), HIGHEST);
        due("CLOCK starts, highest", x.act(1, 0, HIGHEST), LOWEST + 3);
        due("PART takes, highest", x.act(0, 1, HIGHEST), -2);
        due("PART takes, lowest", x.act(0, 1, LOWEST), 0);
        due("PART takes, 2 ^ 30", x.act(0, 1, 1 << 30), LOWEST);
        due("MATCH takes, -(lowest + 2) * 2", x.act(2, 1, LOWEST), -4);
        due("MATCH takes, less the lowest", x.act(2, 1, (1 << 30) - 2), LOWEST);
        due("LEVER takes, x + 1 of the highest", x.act(3, 1, HIGHEST), -6);
        due("LEVER fails, three times the highest", x.act(3, 2, HIGHEST ^ 3), HIGHEST - 2);
        due("KETTLE fails, lowest", x.act(5, 2, LOWEST ^ 5), LOWEST - 7);
        due("CAT starts, twice", x.act(6, 0, HIGHEST), 10);
        due("BELL starts, less 1", x.act(7, 0, (1 << 30) - 7), HIGHEST);
        due("PART tells, lowest", x.act(0, 3, 1 << 30), HIGHEST);
        due("CORK tells", x.act(4, 3, HIGHEST), (2 * (HIGHEST + 7) - 5) ^ 5);
        due("KETTLE tells, -(x + 6) * 2 - 5 + 1", x.act(5, 3, HIGHEST), -14);
        due("KETTLE tells, beyond the lowest", x.act(5, 3, (1 << 30) - 7), HIGHEST - 1);
        due("BELL takes, (x + 7) * 4 - 2 + 5", x.act(7, 1, 1 << 29), LOWEST + 31);
    }

    private static void numberOfTheBody() throws IOException {
        CHECK.about(0, "n its number");
        WokenByKettle x = new WokenByKettle();
        x.body(0);
        x.body(0);
        x.body(0);
        due("0", x.act(0, 0, 7), 7);
        due("1", x.act(1, 0, 7), 8);
        due("2 fails", x.act(2, 2, 7), 5);
    }

    private static void nextKindAbove() throws IOException {
        CHECK.about(0, "the body of its own KIND, or of the next KIND above that has one; super: from the KIND above");
        int[][] starts = {{1}, {20, 1}, {1}, {1}, {20, 1}, {1}, {70, 1}, {81, 70, 1}};
        int[][] takes = {{10, 1}, {10, 20, 1}, {30, 10, 1}, {41, 30, 10, 1}, {10, 20, 1}, {41, 30, 10, 1}, {10, 70, 1},
            {80, 10, 81, 70, 1, 11}};
        int[][] fails = {{11}, {11}, {11}, {40, 11}, {11}, {60, 40, 11, 1}, {11}, {11}};
        int[][] tells = {{2, 10, 1, 11}, {2, 10, 20, 1, 11}, {2, 30, 10, 1, 11}, {2, 41, 30, 10, 1, 40, 11},
            {50, 2, 10, 20, 1, 11}, {61, 2, 41, 30, 10, 1, 60, 40, 11, 1}, {2, 10, 70, 1, 11},
            {2, 80, 10, 81, 70, 1, 11, 11}};
        ran(0, starts);
        ran(1, takes);
        ran(2, fails);
        ran(3, tells);
    }

    private static void ran(int act, int[][] want) {
        WokenByKettle x = eight();
        for (int kind = 0; kind < 8; kind++) {
            x.act(kind, act, 5);
            due("how many ran of " + kind + " by " + act, x.count(4), want[kind].length);
            for (int i = 0; i < want[kind].length; i++) {
                due("trace(" + i + ") of " + kind + " by " + act, x.trace(i), want[kind][i]);
            }
            due("none more", x.trace(want[kind].length), -1);
        }
    }

    private static void whatBodiesGive() throws IOException {
        CHECK.about(0, "BODIES of acts: STARTS (an interface of PART): 1 starts: x + n.");
        int[][] at100 = {{100, 104, 102, 103, 107, 105, 212, 213}, {200, 208, -204, -208, 214, -212, 424, 431},
            {100, 101, 102, 309, 96, 284, 98, 99}, {199, 208, -207, -214, 212, -216, 417, 425}};
        int[][] at0 = {{0, 4, 2, 3, 7, 5, 12, 13}, {0, 8, -4, -8, 14, -12, 24, 31}, {0, 1, 2, 9, 4, 8, 6, 7},
            {-1, 8, -7, -14, 12, -16, 17, 25}};
        int[][] below = {{-1, 3, 1, 2, 6, 4, 10, 11}, {-2, 6, -2, -6, 12, -10, 20, 27}, {-1, -2, -3, -12, -5, -25, -7, -8},
            {-3, 6, -5, -12, 2, -14, 13, 21}};
        WokenByKettle x = eight();
        for (int act = 0; act < 4; act++) {
            for (int kind = 0; kind < 8; kind++) {
                due("act(" + kind + ", " + act + ", 100)", x.act(kind, act, 100), at100[act][kind]);
                due("act(" + kind + ", " + act + ", 0)", x.act(kind, act, 0), at0[act][kind]);
                due("act(" + kind + ", " + act + ", -1)", x.act(kind, act, -1), below[act][kind]);
            }
        }
    }

    private static void traceOfTheLatest() throws IOException {
        CHECK.about(0, "THE TRACE: numbers of the bodies that ran in the latest act(), as they began");
        WokenByKettle x = eight();
        due("no act yet", x.trace(0), -1);
        due("none ran", x.count(4), 0);
        x.act(5, 3, 0);
        due("ten", x.count(4), 10);
        x.act(0, 0, 0);
        due("one", x.count(4), 1);
        due("it", x.trace(0), 1);
        due("none of before", x.trace(1), -1);
    }

    private static void firstTwentyFour() throws IOException {
        CHECK.about(0, "the first 24 are kept.");
        // the longest act of all runs ten bodies, so that all are kept
        WokenByKettle x = eight();
        int most = 0;
        for (int kind = 0; kind < 8; kind++) {
            for (int act = 0; act < 4; act++) {
                x.act(kind, act, 1);
                most = Math.max(most, x.count(4));
                due("the last is kept", x.trace(x.count(4) - 1) > 0 ? 1 : 0, 1);
                due("none behind it", x.trace(x.count(4)), -1);
                due("24", x.trace(24), -1);
            }
        }
        due("the longest", most, 10);
    }

    // ---- Terms: SHELVES

    private static void shelvesAtFirst() throws IOException {
        CHECK.about(0, "SHELVES 0 .. 5 each hold nothing (at first), a BODY, or a ROW");
        WokenByKettle x = eight();
        for (int shelf = 0; shelf < 6; shelf++) {
            due("nothing", x.taken(shelf, 0), -11);
            due("nothing to put into", x.put(shelf, 0, 1), -11);
            due("a BODY", x.keep(shelf, shelf), 1);
            due("its KIND", x.taken(shelf, 0), shelf);
            due("a ROW", x.row(shelf, 1, 1), 1);
            due("no BODY", x.taken(shelf, 0), -12);
        }
        due("no shelf -1", x.keep(-1, 0), -1);
        due("no shelf 6", x.row(6, 1, 1), -1);
    }

    private static void elementsAtFirst() throws IOException {
        CHECK.about(0, "of 0 .. 60 elements, 0 at first (false)");
        WokenByKettle x = new WokenByKettle();
        for (int sort = 0; sort < 5; sort++) {
            x.row(0, sort, 60);
            for (int i = 0; i < 60; i += 59) {
                due("0 of sort " + sort, x.element(0, i), 0);
                x.put(0, i, 1);
            }
            x.row(0, sort, 60);
            due("0 in a new one of sort " + sort, x.element(0, 59), 0);
            x.put(0, 59, 1);
            x.row(0, sort, 59);
            x.row(0, sort, 60);
            due("0 where an old one was longer", x.element(0, 59), 0);
        }
    }

    private static void sixtyElements() throws IOException {
        CHECK.about(0, "of 0 .. 60 elements");
        WokenByKettle x = new WokenByKettle();
        due("0", x.row(0, 3, 0), 1);
        due("no element", x.put(0, 0, 1), -13);
        due("60", x.row(0, 3, 60), 1);
        due("the last", x.put(0, 59, 1), 1);
        due("behind it", x.put(0, 60, 1), -13);
        due("61", x.row(0, 3, 61), -1);
        due("59", x.row(0, 3, 59), 1);
        due("behind it", x.put(0, 59, 1), -13);
    }

    private static void lowestBits() throws IOException {
        CHECK.about(0, "what is put in keeps its lowest bits (a boolean: whether it is not 0; 1 or 0)");
        long[] v = {127, 128, 255, 256, -128, -129, 32767, 32768, 65535, 65536, -32768, -32769, 2147483647L, 2147483648L,
            4294967295L, 4294967296L, -2147483648L, -2147483649L, Long.MAX_VALUE, MIN, 0, 1, -1, 0x1234567890ABCDEFL};
        WokenByKettle x = new WokenByKettle();
        for (int sort = 0; sort < 5; sort++) {
            x.row(sort, sort, 1);
        }
        for (long one : v) {
            long[] want = {one << 56 >> 56, one << 48 >> 48, one << 32 >> 32, one, one == 0 ? 0 : 1};
            for (int sort = 0; sort < 5; sort++) {
                x.put(sort, 0, one);
                due(one + " in sort " + sort, x.element(sort, 0), want[sort]);
            }
        }
    }

    // ---- promises 33 to 35

    private static void bodyBadAndFull() throws IOException {
        CHECK.about(33, "A BODY of a KIND (0 .. 7) is kept: its number. BAD, FULL.");
        WokenByKettle x = new WokenByKettle();
        due("-1", x.body(-1), -1);
        due("8", x.body(8), -1);
        due("lowest", x.body(LOWEST), -1);
        due("highest", x.body(HIGHEST), -1);
        due("none came", x.count(3), 0);
        due("0", x.body(0), 0);
        due("7", x.body(7), 1);
        for (int i = 2; i < 50; i++) {
            x.body(7);
        }
        due("FULL", x.body(7), -3);
        due("BAD is named first", x.body(8), -1);
        due("BAD is named first", x.body(-1), -1);
        due("fifty", x.count(3), 50);
    }

    private static void actNoSuch() throws IOException {
        CHECK.about(34, "0, and no TRACE then: no such BODY, ACT.");
        int[][] wrong = {{-1, 0}, {8, 0}, {50, 0}, {LOWEST, 0}, {HIGHEST, 0}, {0, -1}, {0, 4}, {0, LOWEST}, {0, HIGHEST},
            {8, 4}, {-1, -1}};
        for (int[] one : wrong) {
            WokenByKettle x = eight();
            due("an ACT", x.act(7, 3, 9) == 0 ? 1 : 0, 0);
            due("act(" + one[0] + ", " + one[1] + ", 9)", x.act(one[0], one[1], 9), 0);
            due("no TRACE", x.trace(0), -1);
            due("none ran", x.count(4), 0);
        }
        due("no BODIES", new WokenByKettle().act(0, 0, 9), 0);
    }

    private static void traceBad() throws IOException {
        CHECK.about(35, "THE TRACE's i-th body. BAD.");
        WokenByKettle x = eight();
        due("no act yet", x.trace(0), -1);
        x.act(5, 3, 1);
        due("0", x.trace(0), 61);
        due("9", x.trace(9), 1);
        due("10", x.trace(10), -1);
        due("-1", x.trace(-1), -1);
        due("23", x.trace(23), -1);
        due("24", x.trace(24), -1);
        due("lowest", x.trace(LOWEST), -1);
        due("highest", x.trace(HIGHEST), -1);
    }

    // ---- promises 36 to 39

    private static void keepNothing() throws IOException {
        CHECK.about(36, "A SHELF holds nothing (body -1), or a BODY: 1.");
        WokenByKettle x = eight();
        due("nothing where nothing is", x.keep(0, -1), 1);
        due("nothing", x.taken(0, 0), -11);
        due("a BODY", x.keep(0, 7), 1);
        due("it", x.taken(0, 7), 7);
        due("nothing", x.keep(0, -1), 1);
        due("nothing", x.taken(0, 7), -11);
        x.row(0, 1, 3);
        due("nothing instead of a ROW", x.keep(0, -1), 1);
        due("nothing", x.element(0, 0), MIN);
        due("nothing, without BODIES", new WokenByKettle().keep(5, -1), 1);
    }

    private static void keepBad() throws IOException {
        CHECK.about(36, "or a BODY: 1. BAD.");
        WokenByKettle x = eight();
        x.keep(0, 3);
        due("none yet", x.keep(0, 8), -1);
        due("-2", x.keep(0, -2), -1);
        due("lowest", x.keep(0, LOWEST), -1);
        due("highest", x.keep(0, HIGHEST), -1);
        due("50", x.keep(0, 50), -1);
        due("it is there still", x.taken(0, 0), 3);
        due("shelf -1", x.keep(-1, 0), -1);
        due("shelf 6", x.keep(6, 0), -1);
        due("nothing on shelf 6", x.keep(6, -1), -1);
        due("nothing on shelf -1", x.keep(-1, -1), -1);
        due("lowest shelf", x.keep(LOWEST, 0), -1);
        due("highest shelf", x.keep(HIGHEST, 0), -1);
        due("no BODIES", new WokenByKettle().keep(0, 0), -1);
    }

    private static void rowBad() throws IOException {
        CHECK.about(37, "A SHELF holds a ROW: 1. BAD (sort, n above 60); -14.");
        WokenByKettle x = new WokenByKettle();
        Given.shorts(x, 0, 7, 8);
        due("sort -1", x.row(0, -1, 1), -1);
        due("sort 5", x.row(0, 5, 1), -1);
        due("lowest sort", x.row(0, LOWEST, 1), -1);
        due("highest sort", x.row(0, HIGHEST, 1), -1);
        due("n 61", x.row(0, 1, 61), -1);
        due("highest n", x.row(0, 1, HIGHEST), -1);
        due("shelf -1", x.row(-1, 1, 1), -1);
        due("shelf 6", x.row(6, 1, 1), -1);
        due("lowest shelf", x.row(LOWEST, 1, 1), -1);
        due("it is there still", x.element(0, 1), 8);
        due("sort 0", x.row(1, 0, 60), 1);
        due("sort 4", x.row(1, 4, 60), 1);
    }

    private static void rowBelowZero() throws IOException {
        CHECK.about(37, "-14.");
        WokenByKettle x = new WokenByKettle();
        Given.shorts(x, 0, 7, 8);
        due("n -1", x.row(0, 1, -1), -14);
        due("lowest n", x.row(0, 1, LOWEST), -14);
        due("BAD is named first: sort", x.row(0, 5, -1), -1);
        due("BAD is named first: shelf", x.row(6, 1, -1), -1);
        due("it is there still", x.element(0, 1), 8);
        due("n 0", x.row(0, 1, 0), 1);
        due("none of it is there", x.element(0, 0), MIN);
    }

    private static void putRefusals() throws IOException {
        CHECK.about(38, "Element i of a ROW becomes v: 1. BAD, -11, -12, -13.");
        WokenByKettle x = eight();
        due("shelf -1", x.put(-1, 0, 1), -1);
        due("shelf 6", x.put(6, 0, 1), -1);
        due("lowest shelf", x.put(LOWEST, 0, 1), -1);
        due("highest shelf", x.put(HIGHEST, 0, 1), -1);
        due("nothing there", x.put(0, 0, 1), -11);
        due("-11 is named first", x.put(0, -1, 1), -11);
        x.keep(0, 1);
        due("a BODY", x.put(0, 0, 1), -12);
        due("-12 is named first", x.put(0, -1, 1), -12);
        Given.shorts(x, 0, 7, 8);
        due("place -1", x.put(0, -1, 1), -13);
        due("place 2", x.put(0, 2, 1), -13);
        due("lowest place", x.put(0, LOWEST, 1), -13);
        due("highest place", x.put(0, HIGHEST, 1), -13);
        due("place 0", x.put(0, 0, 1), 1);
        due("place 1", x.put(0, 1, 2), 1);
        due("element 0", x.element(0, 0), 1);
        due("element 1", x.element(0, 1), 2);
        x.row(0, 1, 0);
        due("an empty ROW", x.put(0, 0, 1), -13);
    }

    private static void elementRefusals() throws IOException {
        CHECK.about(39, "Element i of a ROW; Long.MIN_VALUE: BAD, -11 to -13.");
        WokenByKettle x = eight();
        due("shelf -1", x.element(-1, 0), MIN);
        due("shelf 6", x.element(6, 0), MIN);
        due("lowest shelf", x.element(LOWEST, 0), MIN);
        due("highest shelf", x.element(HIGHEST, 0), MIN);
        due("nothing there", x.element(0, 0), MIN);
        x.keep(0, 1);
        due("a BODY", x.element(0, 0), MIN);
        Given.row(x, 0, 3, -11, -12, -13, -1, MIN);
        due("place -1", x.element(0, -1), MIN);
        due("place 5", x.element(0, 5), MIN);
        due("lowest place", x.element(0, LOWEST), MIN);
        due("highest place", x.element(0, HIGHEST), MIN);
        long[] want = {-11, -12, -13, -1, MIN};
        for (int i = 0; i < 5; i++) {
            due("place " + i, x.element(0, i), want[i]);
        }
        x.row(0, 3, 0);
        due("an empty ROW", x.element(0, 0), MIN);
    }

    // ---- promise 40

    private static WokenByKettle lined() {
        WokenByKettle x = eight();
        Given.shorts(x, 0, 1, 2, 3, 4, 5, 6);
        Given.shorts(x, 1, 11, 12, 13);
        return x;
    }

    private static void holds(WokenByKettle x, int shelf, long... want) {
        for (int i = 0; i < want.length; i++) {
            due("element(" + shelf + ", " + i + ")", x.element(shelf, i), want[i]);
        }
    }

    private static void shiftAsTheyWere() throws IOException {
        CHECK.about(40, "(or the same) from j on, as they all were before: n.");
        for (int from = 0; from < 6; from++) {
            for (int to = 0; to < 6; to++) {
                WokenByKettle x = lined();
                int n = 6 - Math.max(from, to);
                due("shift(0, " + from + ", 0, " + to + ", " + n + ")", x.shift(0, from, 0, to, n), n);
                for (int i = 0; i < 6; i++) {
                    due("element " + i, x.element(0, i), i >= to && i < to + n ? 1 + from + i - to : 1 + i);
                }
                due("one more", x.shift(0, from, 0, to, n + 1), -13);
            }
        }
        for (int sort = 0; sort < 5; sort++) {
            WokenByKettle y = new WokenByKettle();
            y.row(0, sort, 60);
            y.row(1, sort, 60);
            y.put(0, 0, 1);
            y.put(0, 59, 1);
            due("sixty of sort " + sort, y.shift(0, 0, 1, 0, 60), 60);
            due("the first", y.element(1, 0), 1);
            due("the last", y.element(1, 59), 1);
            due("another", y.element(1, 30), 0);
        }
    }

    private static void shiftNothing() throws IOException {
        CHECK.about(40, "BAD, -11 (either)");
        WokenByKettle x = lined();
        due("shelf -1", x.shift(-1, 0, 0, 0, 1), -1);
        due("shelf 6", x.shift(6, 0, 0, 0, 1), -1);
        due("other -1", x.shift(0, 0, -1, 0, 1), -1);
        due("other 6", x.shift(0, 0, 6, 0, 1), -1);
        due("lowest other", x.shift(0, 0, LOWEST, 0, 1), -1);
        due("nothing here", x.shift(2, 0, 0, 0, 1), -11);
        due("nothing there", x.shift(0, 0, 2, 0, 1), -11);
        due("nothing at all", x.shift(2, 0, 3, 0, 1), -11);
        due("nothing, and no elements of it", x.shift(2, 0, 2, 0, 0), -11);
    }

    private static void shiftUnlike() throws IOException {
        CHECK.about(40, "-12 (no ROWS, or of unlike sorts)");
        for (int sort = 0; sort < 5; sort++) {
            for (int other = 0; other < 5; other++) {
                WokenByKettle x = new WokenByKettle();
                Given.row(x, 0, sort, 1, 1);
                Given.row(x, 1, other, 0, 0);
                due("sort " + sort + " to " + other, x.shift(0, 0, 1, 0, 2), sort == other ? 2 : -12);
                due("no elements, sort " + sort + " to " + other, x.shift(0, 0, 1, 0, 0), sort == other ? 0 : -12);
                due("the last of it", x.element(1, 1), sort == other ? 1 : 0);
            }
        }
        WokenByKettle y = lined();
        y.keep(2, 0);
        due("a BODY here", y.shift(2, 0, 0, 0, 1), -12);
        due("a BODY there", y.shift(0, 0, 2, 0, 1), -12);
        due("a BODY to itself", y.shift(2, 0, 2, 0, 0), -12);
    }

    private static void shiftPlaces() throws IOException {
        CHECK.about(40, "-13 (n below 0, too).");
        WokenByKettle x = lined();
        int[][] wrong = {{-1, 0, 1}, {0, -1, 1}, {0, 0, 4}, {4, 0, 3}, {0, 1, 3}, {6, 0, 1}, {0, 3, 1}, {7, 0, 0}, {0, 4, 0},
            {-1, 0, 0}, {0, -1, 0}, {0, 0, -1}, {6, 3, -1}, {0, 0, LOWEST}, {0, 0, HIGHEST}, {1, 1, HIGHEST},
            {HIGHEST, 0, 1}, {0, HIGHEST, 1}, {HIGHEST, HIGHEST, HIGHEST}, {LOWEST, 0, 0}, {0, LOWEST, 0},
            {LOWEST, LOWEST, LOWEST}, {-1, -1, -1}};
        for (int[] one : wrong) {
            String call = "shift(0, " + one[0] + ", 1, " + one[1] + ", " + one[2] + ")";
            due(call, x.shift(0, one[0], 1, one[1], one[2]), -13);
        }
        holds(x, 1, 11, 12, 13);
        due("none, behind both ends", x.shift(0, 6, 1, 3, 0), 0);
        due("the last to the last", x.shift(0, 5, 1, 2, 1), 1);
        holds(x, 1, 11, 12, 6);
        due("all of the short one", x.shift(1, 0, 0, 3, 3), 3);
        holds(x, 0, 1, 2, 3, 11, 12, 6);
        x.row(2, 1, 0);
        due("none of an empty ROW", x.shift(2, 0, 2, 0, 0), 0);
        due("one of an empty ROW", x.shift(2, 0, 0, 0, 1), -13);
    }

    private static void shiftOrder() throws IOException {
        CHECK.about(40, "BAD, -11 (either), -12 (no ROWS, or of unlike sorts), -13 (n below 0, too).");
        WokenByKettle x = lined();
        x.keep(2, 0);
        x.row(3, 2, 2);
        due("BAD, nothing there", x.shift(6, 0, 4, 0, 1), -1);
        due("nothing here, BAD", x.shift(4, 0, 6, 0, 1), -1);
        due("BAD, a BODY, no place", x.shift(-1, -1, 2, -1, -1), -1);
        due("a BODY here, nothing there", x.shift(2, 0, 4, 0, 1), -11);
        due("nothing here, a BODY there", x.shift(4, 0, 2, 0, 1), -11);
        due("nothing here, no place", x.shift(4, -1, 0, -1, -1), -11);
        due("a BODY here, no place", x.shift(2, -1, 0, 0, 1), -12);
        due("unlike sorts, n below 0", x.shift(0, 0, 3, 0, -1), -12);
        due("unlike sorts, no place", x.shift(0, 9, 3, 9, 1), -12);
    }

    // ---- promises 41, 42

    private static void takenUnder() throws IOException {
        CHECK.about(41, "taken for a BODY of KIND k (0 .. 7), or under it: its KIND.");
        int[][] above = {{0}, {1, 0}, {2, 0}, {3, 2, 0}, {4, 1, 0}, {5, 3, 2, 0}, {6, 0}, {7, 6, 0}};
        WokenByKettle x = eight();
        for (int kind = 0; kind < 8; kind++) {
            x.keep(0, kind);
            int[] want = {-12, -12, -12, -12, -12, -12, -12, -12};
            for (int k : above[kind]) {
                want[k] = kind;
            }
            for (int k = 0; k < 8; k++) {
                due("KIND " + kind + " taken for " + k, x.taken(0, k), want[k]);
            }
        }
    }

    private static void takenRefusals() throws IOException {
        CHECK.about(41, "BAD, -11, -12.");
        WokenByKettle x = eight();
        due("shelf -1", x.taken(-1, 0), -1);
        due("shelf 6", x.taken(6, 0), -1);
        due("lowest shelf", x.taken(LOWEST, 0), -1);
        due("highest shelf", x.taken(HIGHEST, 0), -1);
        due("nothing there", x.taken(0, 0), -11);
        due("BAD is named first: KIND -1", x.taken(0, -1), -1);
        due("BAD is named first: KIND 8", x.taken(0, 8), -1);
        for (int sort = 0; sort < 5; sort++) {
            x.row(0, sort, 3);
            due("a ROW", x.taken(0, 0), -12);
            due("BAD is named first: KIND 8", x.taken(0, 8), -1);
        }
        x.keep(0, 1);
        due("lowest KIND", x.taken(0, LOWEST), -1);
        due("highest KIND", x.taken(0, HIGHEST), -1);
        due("another KIND", x.taken(0, 2), -12);
    }

    private static void countAll() throws IOException {
        CHECK.about(42, "4 bodies that ran in the latest act() (all, kept or not). BAD.");
        WokenByKettle x = eight();
        for (int i = 0; i < 9; i++) {
            due("PARTS", x.count(0), i);
            x.part(0, 1201);
        }
        due("nine PARTS", x.count(0), 9);
        x.part(0, 1201);
        due("nine PARTS still", x.count(0), 9);
        for (int i = 0; i < 121; i++) {
            x.feed('w');
        }
        due("bytes", x.count(1), 120);
        for (int i = 0; i < 41; i++) {
            x.mend(0, 8, i);
        }
        due("changes", x.count(2), 40);
        due("BODIES", x.count(3), 8);
        x.act(5, 3, 1);
        due("bodies that ran", x.count(4), 10);
    }

    private static void countBad() throws IOException {
        CHECK.about(42, "BAD.");
        WokenByKettle x = eight();
        due("-1", x.count(-1), -1);
        due("5", x.count(5), -1);
        due("lowest", x.count(LOWEST), -1);
        due("highest", x.count(HIGHEST), -1);
    }
}
