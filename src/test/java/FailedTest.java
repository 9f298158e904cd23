/** Promises 18 to 25: where it failed, mending, BOOKS, draws. */
public final class FailedTest {
    private static final Check CHECK = new Check("FailedTest");
    private static final long MIN = Long.MIN_VALUE;

    public static void main(String[] args) {
        promise18Failed();
        promise18Edges();
        promise19Look();
        promise20Test();
        promise21Mending();
        promise21Edges();
        promise22Judge();
        promise23How();
        promise24Whose();
        promise24Edges();
        promise25Drawn();
        CHECK.end();
    }

    private static void due(String call, long got, long want) {
        CHECK.due(call, got, want);
    }

    /** One behind the other: 6, 9, 12 of twelve; 1, 2, 4 minutes. */
    private static WokenByKettle chain() {
        WokenByKettle x = new WokenByKettle();
        x.part(0, 601);
        x.part(1, 902);
        x.part(2, 1204);
        return x;
    }

    private static int sg(int seen, int gone) {
        return 512 * seen + gone;
    }

    private static void promise18Failed() {
        WokenByKettle x = chain();
        due("the first", x.failed(sg(4, 0), 0, 0), 4);
        due("the first", x.failed(sg(4, 0), 0, 1), 5);
        due("the second", x.failed(sg(4, 0), 1, 0), 1);
        due("the second", x.failed(sg(4, 0), 1, 1), 5);
        due("the sure one", x.failed(sg(4, 0), 2, 0), 0);
        due("the sure one", x.failed(sg(4, 0), 2, 1), 1);
        due("nothing seen", x.failed(0, 1, 0), 1);
        due("nothing seen", x.failed(0, 1, 1), 8);
        due("the first went", x.failed(sg(5, 1), 1, 0), 1);
        due("the first went", x.failed(sg(5, 1), 1, 1), 1);
        due("never so", x.failed(sg(6, 4), 0, 0), 0);
        due("never so", x.failed(sg(6, 4), 0, 1), 1);
        due("no odds for it", x.failed(sg(6, 2), 0, 1), 1);
    }

    private static void promise18Edges() {
        WokenByKettle x = chain();
        due("gone, not seen", x.failed(sg(2, 1), 0, 0), MIN);
        due("gone one of none, not seen", x.failed(sg(4, 256), 0, 0), MIN);
        due("gone one of none, seen", x.failed(sg(260, 256), 0, 0), 4);
        due("seen one of none", x.failed(sg(508, 0), 0, 0), 4);
        due("all told", x.failed(sg(511, 511), 0, 1), 1);
        due("below", x.failed(-1, 0, 0), MIN);
        due("lowest", x.failed(Integer.MIN_VALUE, 0, 0), MIN);
        due("above", x.failed(262144, 0, 0), MIN);
        due("highest", x.failed(Integer.MAX_VALUE, 0, 0), MIN);
        due("none", x.failed(0, 3, 0), MIN);
        due("part below", x.failed(0, -1, 0), MIN);
        due("part", x.failed(0, 0, 2), MIN);
        due("part", x.failed(0, 0, -1), MIN);
    }

    private static void promise19Look() {
        WokenByKettle x = chain();
        due("the end lacks", x.look(sg(4, 0)), 0);
        due("the first went", x.look(sg(5, 1)), 1);
        due("all went", x.look(sg(4, 4)), -2);
        due("never so", x.look(sg(6, 4)), -2);
        due("nothing seen", x.look(0), 0);
        due("bad", x.look(sg(2, 1)), -1);
        due("bad bit of none", x.look(8), -1);
        due("below", x.look(-1), -1);
        due("above", x.look(262144), -1);
        x.mend(0, 2, 12);
        x.mend(1, 2, 12);
        due("none ever is stuck", x.look(0), -2);
        WokenByKettle y = new WokenByKettle();
        y.part(0, 601);
        y.part(0, 601);
        due("of like ones the least", y.look(0), 0);
        due("no parts", new WokenByKettle().look(0), -2);
    }

    private static void promise20Test() {
        WokenByKettle x = chain();
        due("nothing seen", x.test(0), 0);
        due("the end lacks", x.test(sg(4, 0)), 0);
        due("the first seen", x.test(sg(5, 1)), 1);
        due("all but one seen", x.test(sg(3, 1)), 2);
        due("all seen", x.test(sg(7, 7)), -2);
        due("never so", x.test(sg(6, 4)), -2);
        due("bits of none", x.test(sg(504, 504)), 0);
        due("bad", x.test(sg(2, 1)), -1);
        due("bad bit of none", x.test(sg(3, 8)), -1);
        due("below", x.test(-512), -1);
        due("above", x.test(262144), -1);
        x.mend(0, 2, 10);
        due("the second parts best", x.test(0), 1);
        x.mend(2, 2, 9);
        due("the end parts best", x.test(0), 2);
        WokenByKettle y = new WokenByKettle();
        y.part(0, 301);
        y.part(0, 901);
        due("of like ones the least", y.test(0), 0);
        due("no parts", new WokenByKettle().test(0), -2);
    }

    private static void promise21Mending() {
        WokenByKettle x = new WokenByKettle();
        x.part(0, 1201);
        x.part(1, 1201);
        x.mend(0, 5, 5);
        x.mend(1, 5, 3);
        PartsTest.enact(x, "12-a");
        due("one morning", x.mending(1, -1), 750000);
        due("whom", x.mending(1, 0), 0);
        due("two mornings", x.mending(2, -1), 1666666);
        due("whom", x.mending(2, 0), 0);
        due("whom", x.mending(2, 1), 1);
        due("three mornings", x.mending(3, -1), 2583332);
        due("whom", x.mending(3, 0), 0);
        due("whom", x.mending(3, 1), 1);
        due("whom", x.mending(3, 2), 0);
        due("ages stay", x.of(0, 5), 5);
        due("no mends", x.led(5), 0);
        PartsTest.enact(x, "a");
        x.mend(0, 5, 9);
        x.mend(1, 5, 8);
        due("none is better", x.mending(3, 0), -1);
        due("none is better", x.mending(3, 2), -1);
        due("9 * 8, 10 * 9, 11 * 10 by 144", x.mending(3, -1), 500000 + 625000 + 763888);
        PartsTest.enact(x, "(a=99)*12");
        x.mend(0, 5, 99);
        x.mend(1, 5, 98);
        due("99 at most", x.mending(3, -1), 2000000);
        PartsTest.enact(x, "6");
        due("of like ones the first", x.mending(2, 1), -1);
        due("all alike", x.mending(2, -1), 500000);
    }

    private static void promise21Edges() {
        WokenByKettle x = new WokenByKettle();
        due("no parts", x.mending(2, -1), 0);
        due("no parts", x.mending(2, 1), -1);
        due("not as many", x.mending(2, 2), -2);
        due("far", x.mending(1, Integer.MAX_VALUE), -2);
        due("n 0", x.mending(0, -1), -3);
        due("n 4", x.mending(4, -1), -3);
        due("k -2", x.mending(1, -2), -3);
        due("lowest", x.mending(1, Integer.MIN_VALUE), -3);
        for (int i = 0; i < 5; i++) {
            x.part(0, 601);
            x.mend(i, 4, 9);
            x.mend(i, 5, i * 2);
        }
        due("five parts", x.mending(3, 0), 4);
        due("then none", x.mending(3, 1), -1);
        x.part(0, 601);
        due("six parts", x.mending(1, -1), -5);
        due("bad ahead of state", x.mending(4, -1), -3);
        due("bad ahead of state", x.mending(1, -2), -3);
    }

    private static void lay(WokenByKettle x, int shelf, int... minutes) {
        x.row(shelf, 1, minutes.length);
        for (int i = 0; i < minutes.length; i++) {
            x.put(shelf, i, minutes[i]);
        }
    }

    private static void promise22Judge() {
        WokenByKettle x = chain();
        lay(x, 0, 7, -1, 7, 7, -1);
        due("all can be", x.judge(0), -2);
        lay(x, 0, 7, -1, 3, 7, 1);
        due("the first that cannot", x.judge(0), 2);
        lay(x, 0, -2);
        due("no such minute", x.judge(0), 0);
        lay(x, 0, 32767);
        due("far", x.judge(0), 0);
        lay(x, 0);
        due("empty", x.judge(0), -2);
        lay(x, 0, 7, -1);
        x.mend(0, 2, 12);
        x.mend(1, 2, 12);
        due("it always comes", x.judge(0), 1);
        x.mend(2, 2, 0);
        due("it never comes", x.judge(0), 0);
        due("shelf below", x.judge(-1), -1);
        due("shelf above", x.judge(6), -1);
        due("nothing there", x.judge(1), -11);
        x.row(1, 2, 2);
        due("no shorts", x.judge(1), -12);
        x.keep(1, x.body(0));
        due("a body", x.judge(1), -12);
    }

    private static void promise23How() {
        WokenByKettle x = chain();
        due("one way", x.how(7, 0), 1);
        due("all work", x.how(7, 1), 7);
        due("it did not", x.how(-1, 0), 3);
        due("likeliest", x.how(-1, 1), 6);
        due("no such minute", x.how(6, 0), 0);
        due("no such minute", x.how(6, 1), -2);
        due("999 is a minute", x.how(999, 0), 0);
        due("below", x.how(-2, 0), -1);
        due("above", x.how(1000, 0), -1);
        due("what", x.how(7, 2), -1);
        due("what", x.how(7, -1), -1);
        x.mend(0, 2, 0);
        x.mend(1, 2, 6);
        due("of like ones the least", x.how(-1, 1), 4);
        due("only with odds", x.how(-1, 0), 2);
        due("no odds", x.how(7, 0), 0);
        due("no odds", x.how(7, 1), -2);
        due("no parts", new WokenByKettle().how(-1, 0), 1);
        due("no parts", new WokenByKettle().how(-1, 1), 0);
    }

    private static void promise24Whose() {
        WokenByKettle x = new WokenByKettle();
        x.part(0, 310);
        lay(x, 0, 10, -1);
        due("half", x.whose(0, 0), 6);
        lay(x, 0, 10, 10, -1);
        due("two of three", x.whose(0, 0), 8);
        lay(x, 0, 10, 10);
        due("always", x.whose(0, 0), 12);
        lay(x, 0, -1);
        due("never", x.whose(0, 0), 0);
        lay(x, 0, 11);
        due("it cannot be", x.whose(0, 0), 0);
        lay(x, 0, 10, 10, 10, -1, -1, 10, -1, -1);
        due("eight mornings", x.whose(0, 0), 6);
        lay(x, 0, -1, 10, -1, -1, -1);
        due("by cut hundredths 3, by fractions 2", x.whose(0, 0), 3);
        lay(x, 0, -1, 10, -1, 10, -1);
        due("two of five", x.whose(0, 0), 5);
        lay(x, 0, 10, 10, -1, 10, 10);
        due("by cut hundredths 9, by fractions 10", x.whose(0, 0), 9);
        due("works as ever", x.works(0), 3);
        WokenByKettle y = chain();
        lay(y, 3, 7, -1);
        due("of the first, as the second is 3 by 4", y.whose(3, 0), 8);
        due("of the second, as the first is 1 by 2", y.whose(3, 1), 12);
        due("of the end", y.whose(3, 2), 12);
        // cut: the odds of one morning in 1728 are below a hundredth whatever v is
        y.mend(1, 2, 1);
        y.mend(0, 2, 1);
        lay(y, 3, 7);
        due("cut to nothing", y.whose(3, 2), 0);
    }

    private static void promise24Edges() {
        WokenByKettle x = chain();
        due("nothing there", x.whose(0, 0), -11);
        due("no part", x.whose(0, 3), -1);
        due("part below", x.whose(0, -1), -1);
        due("shelf below", x.whose(-1, 0), -1);
        due("shelf above", x.whose(6, 0), -1);
        lay(x, 0, 7, 7, 7, 7, 7, 7, 7, 7, 7);
        due("nine mornings", x.whose(0, 0), -5);
        due("bad ahead of state", x.whose(0, 3), -1);
        lay(x, 0);
        due("no mornings", x.whose(0, 0), 0);
        x.row(0, 0, 9);
        due("bytes", x.whose(0, 0), -12);
        x.keep(0, x.body(0));
        due("a body", x.whose(0, 0), -12);
    }

    private static void promise25Drawn() {
        WokenByKettle x = new WokenByKettle();
        due("no parts", x.drawn(7, 50, 0), 0);
        x.part(0, 105);
        // 7 * 1103515245 + 12345 is 3429651764 as a number without sign; by 256 13397077, that is 1 above 12ths
        due("1 is not below 1", x.drawn(7, 1, 0), 0);
        x.mend(0, 2, 2);
        due("1 is below 2", x.drawn(7, 1, 0), 1);
        due("its minute", x.drawn(7, 1, 1), 5);
        x.mend(0, 2, 12);
        due("always", x.drawn(Integer.MIN_VALUE, 50, 0), 50);
        due("minutes", x.drawn(Integer.MAX_VALUE, 50, 1), 250);
        x.mend(0, 2, 0);
        due("never", x.drawn(3, 50, 0), 0);
        due("n 0", x.drawn(1, 0, 0), -1);
        due("n 51", x.drawn(1, 51, 0), -1);
        due("n below", x.drawn(1, -1, 0), -1);
        due("what", x.drawn(1, 1, 2), -1);
        due("what", x.drawn(1, 1, -1), -1);
        x.mend(0, 2, 7);
        x.part(0, 507);
        for (int what = 0; what < 2; what++) {
            due("draws go on from part to part, " + what, x.drawn(99, 20, what), drawnOfTwo(99, 20, 7, 5, 7, what));
        }
    }

    private static int drawnOfTwo(int seed, int n, int first, int second, int takes, int what) {
        int z = seed;
        int ends = 0;
        for (int i = 0; i < n; i++) {
            z = z * 1103515245 + 12345;
            z = z * 1103515245 + 12345;
            if ((z >>> 8) % 12 < second) {
                ends++;
            }
        }
        return what == 0 ? ends : ends * takes;
    }
}
