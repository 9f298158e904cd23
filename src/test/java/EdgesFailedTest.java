import java.io.IOException;

/** One test for each sentence of promises 18 to 25, and of the Terms about what failed, that names an edge. */
public final class EdgesFailedTest {
    private static final Check CHECK = new Check("EdgesFailedTest");
    private static final int LOWEST = Integer.MIN_VALUE, HIGHEST = Integer.MAX_VALUE;
    private static final long MIN = Long.MIN_VALUE;

    public static void main(String[] args) throws IOException {
        goneButNotSeen();
        bitsOfNone();
        stuckNeverSo();
        lookFirstOfLikeOnes();
        lookNever();
        lookNoneIsStuck();
        testOfLikeOnes();
        testNeverOrAllSeen();
        mornings1To3();
        fivePartsAtMost();
        agesOneMore();
        cutEach();
        firstByNumbers();
        noneAheadOfZero();
        notAsMany();
        mendingBad();
        judgedTheFirst();
        judgedNot();
        judgeRefusals();
        howByNone();
        howOfLikeOnes();
        howMinutes();
        howBad();
        whoseTwelfths();
        whoseOfLikeOnes();
        whoseCut();
        whoseEightAtMost();
        whoseRefusals();
        drawnMornings();
        drawnWraps();
        drawnBelowItsTwelfths();
        drawnBad();
        failedBad();
        lookBadAndNot();
        testBadAndNot();
        CHECK.end();
    }

    private static void due(String call, long got, long want) {
        CHECK.due(call, got, want);
    }

    /** One behind the other: 6, 9, 12 of twelve; 1, 2, 4 minutes. */
    private static WokenByKettle three() {
        return Given.parts(0, 601, 1, 902, 2, 1204);
    }

    private static void failed(WokenByKettle x, int sg, int one, long above, long below) {
        due("failed(" + sg + ", " + one + ", 0)", x.failed(sg, one, 0), above);
        due("failed(" + sg + ", " + one + ", 1)", x.failed(sg, one, 1), below);
    }

    // ---- what is seen

    private static void goneButNotSeen() throws IOException {
        CHECK.about(0, "a gone bit that is not SEEN is BAD, of a PART that is none, too");
        WokenByKettle x = three();
        WokenByKettle y = Given.chain(9, 601);
        for (int bit = 0; bit < 9; bit++) {
            int gone = 1 << bit;
            int others = 511 - gone;
            due("failed, gone " + bit, x.failed(Given.told(others, gone), 0, 0), MIN);
            due("look, gone " + bit, x.look(Given.told(others, gone)), -1);
            due("test, gone " + bit, x.test(Given.told(others, gone)), -1);
            due("look of no PARTS, gone " + bit, new WokenByKettle().look(gone), -1);
            due("test of no PARTS, gone " + bit, new WokenByKettle().test(gone), -1);
            due("look of nine, gone " + bit, y.look(Given.told(others, gone)), -1);
            due("look, all gone but " + bit + " seen", x.look(Given.told(others, 511)), -1);
        }
    }

    private static void bitsOfNone() throws IOException {
        CHECK.about(0, "sets: bits of PARTS, those of none do not matter");
        WokenByKettle x = three();
        failed(x, Given.told(4, 0), 0, 4, 5);
        failed(x, Given.told(4 + 504, 0), 0, 4, 5);
        failed(x, Given.told(4 + 504, 504), 0, 4, 5);
        due("look", x.look(Given.told(504, 504)), 0);
        due("test", x.test(Given.told(511, 511)), -2);
        due("test", x.test(Given.told(504, 504)), 0);
    }

    private static void stuckNeverSo() throws IOException {
        CHECK.about(0, "LIKELY of a PART to be STUCK, given that: a fraction (never so: 0 by 1)");
        WokenByKettle x = three();
        failed(x, Given.told(6, 4), 0, 0, 1);
        failed(x, Given.told(6, 4), 1, 0, 1);
        failed(x, Given.told(6, 2), 0, 0, 1);
        failed(x, Given.told(7, 3), 2, 0, 1);
        failed(x, Given.told(4, 4), 0, 0, 1);
        failed(x, Given.told(4, 0), 1, 1, 5);
        x.mend(0, 2, 0);
        failed(x, Given.told(1, 1), 1, 0, 1);
        failed(x, Given.told(1, 0), 0, 1, 1);
        WokenByKettle y = Given.chain(9, 101);
        failed(y, Given.told(256, 0), 8, 1, 469070941);
        failed(y, Given.told(256, 256), 8, 0, 1);
    }

    private static void lookFirstOfLikeOnes() throws IOException {
        CHECK.about(0, "LOOK FIRST: the PART likeliest STUCK (of like ones the least)");
        WokenByKettle x = Given.parts(0, 601, 0, 601, 0, 601);
        due("three alike", x.look(0), 0);
        due("the first has gone", x.look(Given.told(1, 1)), 1);
        x.mend(2, 2, 5);
        due("the last is likelier", x.look(0), 2);
    }

    private static void lookNever() throws IOException {
        CHECK.about(0, "NOT: never so, or none ever is STUCK.");
        WokenByKettle x = three();
        due("never so by AHEAD", x.look(Given.told(6, 4)), -2);
        due("never so by odds", x.look(Given.told(6, 2)), -2);
        due("it is so", x.look(Given.told(7, 1)), 1);
    }

    private static void lookNoneIsStuck() throws IOException {
        CHECK.about(0, "or none ever is STUCK.");
        WokenByKettle x = three();
        due("all have gone", x.look(Given.told(7, 7)), -2);
        due("all works", Given.chain(9, 1201).look(0), -2);
        due("one twelfth is missing", Given.parts(0, 1201, 1, 1101).look(0), 1);
        due("no PARTS", new WokenByKettle().look(0), -2);
    }

    private static void testOfLikeOnes() throws IOException {
        CHECK.about(0, "by which the greater of both odds (of gone, not gone) is least (of like ones the least)");
        due("a third and two thirds", Given.parts(0, 401, 0, 801).test(0), 0);
        due("the other way round", Given.parts(0, 801, 0, 401).test(0), 0);
        due("the second is nearer to half", Given.parts(0, 801, 0, 501).test(0), 1);
        due("always and never", Given.parts(0, 1201, 0, 1).test(0), 0);
        due("the first is seen", Given.parts(0, 401, 0, 801).test(Given.told(1, 0)), 1);
        due("the ninth", Given.parts(0, 1201, 0, 1201, 0, 1201, 0, 1201, 0, 1201, 0, 1201, 0, 1201, 0, 1201, 0, 101)
            .test(0), 8);
    }

    private static void testNeverOrAllSeen() throws IOException {
        CHECK.about(0, "NOT: never so, or all are SEEN.");
        WokenByKettle x = three();
        due("never so by AHEAD", x.test(Given.told(6, 4)), -2);
        due("never so by odds", x.test(Given.told(6, 2)), -2);
        due("all are seen", x.test(Given.told(7, 1)), -2);
        due("all but the last", x.test(Given.told(3, 1)), 2);
        due("all but the first", x.test(Given.told(6, 0)), 0);
        due("no PARTS", new WokenByKettle().test(0), -2);
        due("nine, all but one", Given.chain(9, 601).test(Given.told(255, 255)), 8);
        due("nine, all", Given.chain(9, 601).test(Given.told(511, 255)), -2);
    }

    // ---- MEND

    private static void mornings1To3() throws IOException {
        CHECK.about(0, "MEND: n mornings (1 .. 3; 5 PARTS at most, else STATE)");
        WokenByKettle x = Given.parts(0, 601);
        due("0 mornings", x.mending(0, -1), -3);
        due("1 morning", x.mending(1, -1), 500000);
        due("3 mornings", x.mending(3, -1), 1500000);
        due("4 mornings", x.mending(4, -1), -3);
        due("-1 mornings", x.mending(-1, -1), -3);
        due("lowest", x.mending(LOWEST, -1), -3);
        due("highest", x.mending(HIGHEST, -1), -3);
        due("no PARTS", new WokenByKettle().mending(3, -1), 0);
        due("no PARTS, whom", new WokenByKettle().mending(3, 2), -1);
    }

    private static void fivePartsAtMost() throws IOException {
        CHECK.about(0, "5 PARTS at most, else STATE");
        WokenByKettle x = Given.chain(5, 1201);
        due("5 PARTS", x.mending(3, -1), 3000000);
        due("5 PARTS, whom", x.mending(3, 2), -1);
        x.part(31, 1201);
        due("6 PARTS", x.mending(1, -1), -5);
        due("6 PARTS, whom", x.mending(1, 0), -5);
        due("9 PARTS", Given.chain(9, 1201).mending(3, -1), -5);
        due("BAD is named first", x.mending(0, -1), -3);
        due("BAD is named first", x.mending(4, -1), -3);
        due("BAD is named first", x.mending(3, -2), -3);
    }

    private static void agesOneMore() throws IOException {
        CHECK.about(0, "ahead of each one PART (or none) is mended (AGE 0), behind each all AGES are one more (99 at most)");
        WokenByKettle x = Given.parts(0, 1201);
        x.mend(0, 5, 99);
        Given.law(x, "(a=99)*12");
        due("99, 99, 99", x.mending(3, -1), 3000000);
        x.mend(0, 5, 97);
        due("97, 98, 99", x.mending(3, -1), 1000000);
        Given.law(x, "(a=100)*12");
        due("never 100", x.mending(3, -1), 0);
        Given.law(x, "(a=0)*12");
        due("mended ahead of each", x.mending(3, -1), 3000000);
        for (int k = 0; k < 3; k++) {
            due("whom ahead of " + k, x.mending(3, k), 0);
        }
        Given.law(x, "(a=2)*12");
        due("mended ahead of the first alone", x.mending(3, -1), 1000000);
        due("ahead of the first", x.mending(3, 0), 0);
        due("ahead of the second", x.mending(3, 1), -1);
        due("AGE stays", x.of(0, 5), 97);
    }

    private static void cutEach() throws IOException {
        CHECK.about(0, "all mornings' odds in millionths (cut each) together, most");
        WokenByKettle x = Given.parts(0, 701);
        due("583333 and 1 by 3", x.mending(1, -1), 583333);
        due("twice", x.mending(2, -1), 1166666);
        due("three times", x.mending(3, -1), 1749999);
        due("less than one millionth", Given.chain(5, 1).mending(3, -1), 0);
        due("a little more than 4, three times", Given.chain(5, 101).mending(3, -1), 12);
    }

    private static void firstByNumbers() throws IOException {
        CHECK.about(0, "of like ones the first by numbers, none ahead of 0");
        WokenByKettle x = Given.parts(0, 1201, 1, 1201);
        x.mend(0, 5, 5);
        x.mend(1, 5, 5);
        Given.law(x, "12-a");
        due("either", x.mending(1, 0), 0);
        due("one, then the other", x.mending(2, 0), 0);
        due("one, then the other", x.mending(2, 1), 1);
        x.mend(1, 5, 6);
        due("the older one", x.mending(1, 0), 1);
        due("either first", x.mending(2, 0), 1);
        due("then the other", x.mending(2, 1), 0);
    }

    private static void noneAheadOfZero() throws IOException {
        CHECK.about(0, "whom ahead of the k-th (-1: none; of like ones the first by numbers, none ahead of 0)");
        WokenByKettle x = Given.parts(0, 601, 1, 601);
        for (int k = 0; k < 3; k++) {
            due("it does not matter whom", x.mending(3, k), -1);
        }
        x.mend(0, 4, 1);
        x.mend(0, 5, 9);
        due("the first morning is alike", x.mending(1, 0), -1);
        due("it can wait", x.mending(2, 0), -1);
        due("it must be now", x.mending(2, 1), 0);
        due("never mended", x.mending(1, -1), 250000);
    }

    private static void notAsMany() throws IOException {
        CHECK.about(21, "(-1: none; -2 where there are not as many)");
        WokenByKettle x = Given.parts(0, 601);
        for (int n = 1; n <= 3; n++) {
            due("the last", x.mending(n, n - 1), -1);
            due("one more", x.mending(n, n), -2);
            due("highest", x.mending(n, HIGHEST), -2);
        }
        due("no PARTS", new WokenByKettle().mending(1, 1), -2);
    }

    private static void mendingBad() throws IOException {
        CHECK.about(21, "BAD: -3; STATE.");
        WokenByKettle x = Given.parts(0, 601);
        due("k -2", x.mending(1, -2), -3);
        due("lowest k", x.mending(1, LOWEST), -3);
        due("n 0", x.mending(0, 0), -3);
        due("n 4", x.mending(4, 0), -3);
        due("BAD is named first", x.mending(0, 5), -3);
        due("STATE", Given.chain(6, 1201).mending(1, -1), -5);
    }

    // ---- BOOKS

    private static void judgedTheFirst() throws IOException {
        CHECK.about(0, "JUDGED: the first that cannot be by any set with odds above 0; NOT.");
        WokenByKettle x = three();
        long[] wrong = {-2, 0, 1, 6, 8, 540, 541, 999, 1000, 32767, -32768};
        for (long one : wrong) {
            Given.shorts(x, 0, 7, -1, one, 7, one);
            due("minute " + one, x.judge(0), 2);
            Given.shorts(x, 0, one);
            due("minute " + one + " alone", x.judge(0), 0);
        }
        Given.shorts(x, 0, -1, 7);
        x.mend(0, 2, 12);
        x.mend(1, 2, 12);
        due("it always comes", x.judge(0), 0);
        x.mend(0, 2, 0);
        due("it never comes", x.judge(0), 1);
        x.row(1, 1, 60);
        for (int i = 0; i < 59; i++) {
            x.put(1, i, -1);
        }
        due("the last of sixty", x.judge(1), 59);
    }

    private static void judgedNot() throws IOException {
        CHECK.about(22, "BAD, -11, -12 (no ROW of shorts); NOT.");
        WokenByKettle x = three();
        x.row(0, 1, 0);
        due("an empty BOOK", x.judge(0), -2);
        Given.shorts(x, 0, 7, -1, -1, 7);
        due("all can be", x.judge(0), -2);
        WokenByKettle y = new WokenByKettle();
        Given.shorts(y, 0, -1);
        due("no PARTS, it did not", y.judge(0), -2);
        Given.shorts(y, 0, 0);
        due("no PARTS, minute 0", y.judge(0), 0);
        WokenByKettle z = Given.chain(9, 1160);
        Given.shorts(z, 0, 540, -1, 540);
        due("the latest minute", z.judge(0), -2);
    }

    private static void judgeRefusals() throws IOException {
        CHECK.about(22, "BAD, -11, -12 (no ROW of shorts)");
        WokenByKettle x = three();
        due("shelf -1", x.judge(-1), -1);
        due("shelf 6", x.judge(6), -1);
        due("lowest shelf", x.judge(LOWEST), -1);
        due("highest shelf", x.judge(HIGHEST), -1);
        due("nothing there", x.judge(5), -11);
        int[] sorts = {0, 2, 3, 4};
        for (int sort : sorts) {
            x.row(5, sort, 2);
            due("sort " + sort, x.judge(5), -12);
        }
        x.keep(5, x.body(0));
        due("a BODY", x.judge(5), -12);
        x.keep(5, -1);
        due("nothing any more", x.judge(5), -11);
    }

    private static void howByNone() throws IOException {
        CHECK.about(0, "HOW: by how many sets a minute (-1: it did not) comes");
        WokenByKettle x = three();
        due("7", x.how(7, 0), 1);
        due("6", x.how(6, 0), 0);
        due("8", x.how(8, 0), 0);
        due("it did not: the sets with odds", x.how(-1, 0), 3);
        x.mend(2, 2, 11);
        due("it did not: seven of eight", x.how(-1, 0), 7);
        x.mend(0, 2, 0);
        due("7 without odds", x.how(7, 0), 0);
        due("it did not: four", x.how(-1, 0), 4);
        due("nine", Given.chain(9, 601).how(-1, 0), 511);
        due("no PARTS, it did not", new WokenByKettle().how(-1, 0), 1);
        due("no PARTS, minute 0", new WokenByKettle().how(0, 0), 0);
    }

    private static void howOfLikeOnes() throws IOException {
        CHECK.about(0, "the likeliest (bits; of like ones the least; NOT)");
        WokenByKettle x = Given.parts(0, 601, 1, 601);
        due("00, 01, 10 alike", x.how(-1, 1), 0);
        x.mend(1, 2, 7);
        due("01 is less likely", x.how(-1, 1), 2);
        x.mend(1, 2, 5);
        due("00 and 01 alike", x.how(-1, 1), 0);
        due("both", x.how(2, 1), 3);
        due("no such minute", x.how(3, 1), -2);
        x.mend(0, 2, 0);
        due("no odds", x.how(2, 1), -2);
        due("nine", Given.chain(9, 1201).how(9, 1), 511);
        due("nine, it did not", Given.chain(9, 1201).how(-1, 1), -2);
        due("no PARTS", new WokenByKettle().how(-1, 1), 0);
        due("no PARTS, minute 0", new WokenByKettle().how(0, 1), -2);
    }

    private static void howMinutes() throws IOException {
        CHECK.about(23, "HOW (minute -1 .. 999)");
        WokenByKettle x = three();
        due("-2", x.how(-2, 0), -1);
        due("-1", x.how(-1, 0), 3);
        due("0", x.how(0, 0), 0);
        due("999", x.how(999, 0), 0);
        due("1000", x.how(1000, 0), -1);
        due("540", Given.chain(9, 1260).how(540, 0), 1);
        due("541", Given.chain(9, 1260).how(541, 0), 0);
    }

    private static void howBad() throws IOException {
        CHECK.about(23, "the likeliest (1; NOT). BAD.");
        WokenByKettle x = three();
        due("what -1", x.how(7, -1), -1);
        due("what 2", x.how(7, 2), -1);
        due("highest what", x.how(7, HIGHEST), -1);
        due("lowest minute", x.how(LOWEST, 1), -1);
        due("highest minute", x.how(HIGHEST, 1), -1);
        due("BAD is named first", x.how(6, 2), -1);
        due("BAD is named first", x.how(1000, 1), -1);
    }

    private static void whoseTwelfths() throws IOException {
        CHECK.about(0, "WHOSE: of one PART the twelfths v (0 .. 12, as if THE LAW gave them; of like ones the least)");
        WokenByKettle x = Given.parts(0, 310);
        Given.shorts(x, 0, -1, -1);
        due("never", x.whose(0, 0), 0);
        Given.shorts(x, 0, 10, 10);
        due("always", x.whose(0, 0), 12);
        Given.shorts(x, 0, 10, -1);
        due("half", x.whose(0, 0), 6);
        Given.law(x, "99");
        due("whatever THE LAW gives", x.whose(0, 0), 6);
        Given.law(x, "-99");
        due("whatever THE LAW gives", x.whose(0, 0), 6);
        // beside another that comes in its minute: 8 * 91 ^ 7 by none, 15 * 84 ^ 7 by one, 23 * 76 ^ 7 by two
        WokenByKettle y = Given.parts(0, 610, 0, 110, 3, 1201);
        y.mend(2, 1, 1);
        Given.shorts(y, 0, 11, -1, -1, -1, -1, -1, -1, -1);
        due("a single twelfth", y.whose(0, 0), 1);
    }

    private static void whoseOfLikeOnes() throws IOException {
        CHECK.about(0, "as if THE LAW gave them; of like ones the least) by which the BOOK is likeliest");
        WokenByKettle x = Given.parts(0, 310, 0, 610);
        x.row(0, 1, 0);
        due("an empty BOOK", x.whose(0, 0), 0);
        Given.shorts(x, 0, 10, -1);
        due("a PART on which nothing hangs", x.whose(0, 0), 0);
        due("THE END", x.whose(0, 1), 6);
        Given.shorts(x, 0, 11, 10);
        due("what cannot be", x.whose(0, 1), 0);
        Given.shorts(x, 0, -2);
        due("no such minute", x.whose(0, 1), 0);
        Given.shorts(x, 0, -32768, 32767);
        due("no such minutes", x.whose(0, 1), 0);
    }

    private static void whoseCut() throws IOException {
        CHECK.about(0, "the product of all its mornings' odds, each in hundredths (cut), is most");
        WokenByKettle x = Given.parts(0, 310);
        Given.shorts(x, 0, -1, 10, -1, -1, -1);
        due("by cut hundredths 3, by fractions 2", x.whose(0, 0), 3);
        Given.shorts(x, 0, 10, 10, -1, 10, 10);
        due("by cut hundredths 9, by fractions 10", x.whose(0, 0), 9);
        WokenByKettle y = Given.chain(9, 101);
        Given.shorts(y, 0, 9);
        due("less than a hundredth by any", y.whose(0, 0), 0);
    }

    private static void whoseEightAtMost() throws IOException {
        CHECK.about(0, "8 mornings at most, else STATE.");
        WokenByKettle x = Given.parts(0, 310);
        Given.shorts(x, 0, 10, 10, 10, 10, 10, 10, 10, 10);
        due("eight, each sure", x.whose(0, 0), 12);
        Given.shorts(x, 0, -1, -1, -1, -1, -1, -1, -1, -1);
        due("eight, each lost", x.whose(0, 0), 0);
        Given.shorts(x, 0, 10, 10, 10, 10, 10, 10, 10, 10, 10);
        due("nine", x.whose(0, 0), -5);
        x.row(0, 1, 60);
        due("sixty", x.whose(0, 0), -5);
    }

    private static void whoseRefusals() throws IOException {
        CHECK.about(24, "BAD, -11, -12; STATE.");
        WokenByKettle x = Given.parts(0, 310);
        due("shelf -1", x.whose(-1, 0), -1);
        due("shelf 6", x.whose(6, 0), -1);
        due("lowest shelf", x.whose(LOWEST, 0), -1);
        due("nothing there", x.whose(0, 0), -11);
        due("no such PART of nothing", x.whose(0, 1), -1);
        int[] sorts = {0, 2, 3, 4};
        for (int sort : sorts) {
            x.row(0, sort, 9);
            due("nine of sort " + sort, x.whose(0, 0), -12);
            due("no such PART, sort " + sort, x.whose(0, 1), -1);
        }
        x.keep(0, x.body(0));
        due("a BODY", x.whose(0, 0), -12);
        x.row(0, 1, 9);
        due("PART -1, nine mornings", x.whose(0, -1), -1);
        due("PART 9, nine mornings", x.whose(0, 9), -1);
        due("highest PART", x.whose(0, HIGHEST), -1);
        due("lowest PART", x.whose(0, LOWEST), -1);
        due("nine mornings", x.whose(0, 0), -5);
    }

    // ---- DRAWN

    private static void drawnMornings() throws IOException {
        CHECK.about(0, "DRAWN: n mornings (1 .. 50) by a SEED");
        WokenByKettle x = Given.parts(0, 1260);
        due("0", x.drawn(1, 0, 0), -1);
        due("1", x.drawn(1, 1, 0), 1);
        due("50", x.drawn(1, 50, 0), 50);
        due("50, minutes", x.drawn(1, 50, 1), 3000);
        due("51", x.drawn(1, 51, 0), -1);
        due("the most minutes there are", Given.chain(9, 1260).drawn(1, 50, 1), 27000);
        due("no PARTS", new WokenByKettle().drawn(1, 50, 0), 0);
        due("no PARTS, minutes", new WokenByKettle().drawn(1, 50, 1), 0);
    }

    /** The document's own rule over one PART, with longs cut to ints. */
    private static int drawnOfOne(int seed, int n, int twelfths) {
        long z = seed;
        int ends = 0;
        for (int i = 0; i < n; i++) {
            z = (int) (z * 1103515245L + 12345L);
            long high = (z & 0xFFFFFFFFL) >> 8;
            ends += high % 12 < twelfths ? 1 : 0;
        }
        return ends;
    }

    private static void drawnWraps() throws IOException {
        CHECK.about(0, "z = z * 1103515245 + 12345 (an int; SEED at first)");
        WokenByKettle x = Given.parts(0, 510);
        int[] seeds = {LOWEST, HIGHEST, -1, 0, 1, 2, 7, 65536, -65536, 1103515245, -12345};
        for (int seed : seeds) {
            for (int n = 1; n <= 4; n++) {
                due("drawn(" + seed + ", " + n + ", 0)", x.drawn(seed, n, 0), drawnOfOne(seed, n, 5));
            }
            due("drawn(" + seed + ", 50, 0)", x.drawn(seed, 50, 0), drawnOfOne(seed, 50, 5));
            due("drawn(" + seed + ", 50, 1)", x.drawn(seed, 50, 1), 10 * drawnOfOne(seed, 50, 5));
        }
    }

    private static void drawnBelowItsTwelfths() throws IOException {
        CHECK.about(0, "it works, if (z >>> 8) % 12 is below its twelfths");
        // 0 * 1103515245 + 12345 is 12345; by 256 48, that is 0 above twelfths
        WokenByKettle x = Given.parts(0, 10);
        due("0 is not below 0", x.drawn(0, 1, 0), 0);
        x.mend(0, 2, 1);
        due("0 is below 1", x.drawn(0, 1, 0), 1);
        // 7 * 1103515245 + 12345 is 3429651764 as a number without sign; by 256 13397077, that is 1 above twelfths
        due("1 is not below 1", x.drawn(7, 1, 0), 0);
        x.mend(0, 2, 2);
        due("1 is below 2", x.drawn(7, 1, 0), 1);
        x.mend(0, 2, 12);
        due("always", x.drawn(-1, 50, 0), 50);
        x.mend(0, 2, 0);
        due("never", x.drawn(-1, 50, 0), 0);
    }

    private static void drawnBad() throws IOException {
        CHECK.about(25, "DRAWN: how often (what 0), minutes (1). BAD.");
        WokenByKettle x = Given.parts(0, 1210);
        due("n 0", x.drawn(1, 0, 1), -1);
        due("n 51", x.drawn(1, 51, 1), -1);
        due("n -1", x.drawn(1, -1, 0), -1);
        due("lowest n", x.drawn(1, LOWEST, 0), -1);
        due("highest n", x.drawn(1, HIGHEST, 0), -1);
        due("what -1", x.drawn(1, 1, -1), -1);
        due("what 2", x.drawn(1, 1, 2), -1);
        due("highest what", x.drawn(1, 1, HIGHEST), -1);
        due("any SEED", x.drawn(LOWEST, 1, 0), 1);
    }

    // ---- promises 18 to 20

    private static void failedBad() throws IOException {
        CHECK.about(18, "Long.MIN_VALUE: BAD (gone ones not SEEN, too).");
        WokenByKettle x = three();
        due("sg -1", x.failed(-1, 0, 0), MIN);
        due("sg 262144", x.failed(262144, 0, 0), MIN);
        due("lowest sg", x.failed(LOWEST, 0, 0), MIN);
        due("highest sg", x.failed(HIGHEST, 0, 0), MIN);
        due("sg 262143", x.failed(262143, 0, 1), 1);
        due("gone, not SEEN", x.failed(1, 0, 0), MIN);
        due("gone, another SEEN", x.failed(Given.told(2, 1), 0, 0), MIN);
        due("no such PART", x.failed(0, 3, 0), MIN);
        due("PART -1", x.failed(0, -1, 0), MIN);
        due("highest PART", x.failed(0, HIGHEST, 0), MIN);
        due("part 2", x.failed(0, 0, 2), MIN);
        due("part -1", x.failed(0, 0, -1), MIN);
        due("no PARTS", new WokenByKettle().failed(0, 0, 0), MIN);
    }

    private static void lookBadAndNot() throws IOException {
        CHECK.about(19, "LOOK FIRST. BAD; NOT.");
        WokenByKettle x = three();
        due("-1", x.look(-1), -1);
        due("262144", x.look(262144), -1);
        due("262143", x.look(262143), -2);
        due("lowest", x.look(LOWEST), -1);
        due("highest", x.look(HIGHEST), -1);
        due("-512", x.look(-512), -1);
        due("gone, not SEEN", x.look(1), -1);
        due("BAD is named first", new WokenByKettle().look(1), -1);
        due("0", x.look(0), 0);
    }

    private static void testBadAndNot() throws IOException {
        CHECK.about(20, "TEST. BAD; NOT.");
        WokenByKettle x = three();
        due("-1", x.test(-1), -1);
        due("262144", x.test(262144), -1);
        due("262143", x.test(262143), -2);
        due("lowest", x.test(LOWEST), -1);
        due("highest", x.test(HIGHEST), -1);
        due("-512", x.test(-512), -1);
        due("gone, not SEEN", x.test(1), -1);
        due("BAD is named first", new WokenByKettle().test(1), -1);
        due("0", x.test(0), 0);
    }
}
