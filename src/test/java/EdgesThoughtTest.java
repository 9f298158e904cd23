import java.io.IOException;

/** One test for each sentence of promises 9 to 17, and of the Terms about mornings in thought, that names an edge. */
public final class EdgesThoughtTest {
    private static final Check CHECK = new Check("EdgesThoughtTest");
    private static final int LOWEST = Integer.MIN_VALUE, HIGHEST = Integer.MAX_VALUE, VOID = -2000000000;
    private static final long MIN = Long.MIN_VALUE;

    public static void main(String[] args) throws IOException {
        bitsOfNone();
        zeroByOne();
        oddsOfThoseThatDoNot();
        oddsByTwelveAsOften();
        goesAtOnceOrBehindAll();
        goesBehindAny();
        minutesBehindTheLast();
        minutesBehindTheFirst();
        minutesBehindZero();
        stuckButWaitedFor();
        endInItsMinute();
        goneDoesNot();
        likelyByAMinute();
        withoutParts();
        soonestAndLatest();
        meanNever();
        worthBeginsWithin();
        worthZeroAtLeast();
        worthZeroWithoutEnd();
        worthCut();
        beginOfLikeOnes();
        beginAtTheEdge();
        doubleOneOfBoth();
        doubleOfLikeOnes();
        millionthsCut();
        betterTwelveAtMost();
        outAlwaysWorks();
        changeWithoutParts();
        fireOfNone();
        goneBad();
        goneNot();
        stuckBad();
        likelyEver();
        likelyOfAPart();
        likelyBad();
        whenBadAndNot();
        meanBad();
        worthVoid();
        beginVoid();
        changeBadAndNot();
        fireBad();
        CHECK.end();
    }

    private static void due(String call, long got, long want) {
        CHECK.due(call, got, want);
    }

    /** Two at once, 6 and 9 of twelve, 10 and 5 minutes; THE END, sure, 7 minutes, waits for both, or any. */
    private static WokenByKettle two(int any) {
        WokenByKettle x = Given.parts(0, 610, 0, 905, 3, 1207);
        x.mend(2, 1, any);
        return x;
    }

    /** One sure PART of ten minutes, by which tea should be ready in minute 60. */
    private static WokenByKettle sure() {
        return Given.parts(0, 1210);
    }

    private static void likely(WokenByKettle x, int minute, long above, long below) {
        due("likely(" + minute + ", 0)", x.likely(minute, 0), above);
        due("likely(" + minute + ", 1)", x.likely(minute, 1), below);
    }

    // ---- how it is read

    private static void bitsOfNone() throws IOException {
        CHECK.about(0, "sets: bits of PARTS, those of none do not matter");
        WokenByKettle x = two(0);
        for (int set = 0; set < 8; set++) {
            for (int none = 8; none < 512; none *= 2) {
                due("gone", x.gone(set | none, 2), set == 7 ? 17 : -2);
            }
            due("stuck, all of none", x.stuck(set | 504), x.stuck(set));
        }
        due("no PARTS", new WokenByKettle().stuck(511), 0);
    }

    private static void zeroByOne() throws IOException {
        CHECK.about(0, "All fractions are in lowest terms (0 by 1, where what is above the line is 0).");
        WokenByKettle x = two(0);
        likely(x, 0, 0, 1);
        likely(x, 16, 0, 1);
        likely(x, 17, 3, 8);
        due("fire, above", x.fire(0), 0);
        due("fire, below", x.fire(1), 1);
        due("failed, above", x.failed(0, 2, 0), 0);
        due("failed, below", x.failed(0, 2, 1), 1);
        likely(sure(), 999, 1, 1);
        likely(Given.parts(0, 610), 999, 1, 2);
    }

    // ---- Terms: a morning

    private static void oddsOfThoseThatDoNot() throws IOException {
        CHECK.about(0, "(of those that do not: 12 less them)");
        WokenByKettle x = Given.parts(0, 510);
        likely(x, 999, 5, 12);
        due("that it does not, above", x.failed(0, 0, 0), 7);
        due("that it does not, below", x.failed(0, 0, 1), 12);
        x.mend(0, 2, 0);
        due("never, above", x.failed(0, 0, 0), 1);
        due("never, below", x.failed(0, 0, 1), 1);
        x.mend(0, 2, 12);
        due("always, above", x.failed(0, 0, 0), 0);
    }

    private static void oddsByTwelveAsOften() throws IOException {
        CHECK.about(0, "by 12 as often as there are PARTS");
        likely(Given.chain(1, 101), 999, 1, 12);
        likely(Given.chain(9, 101), 999, 1, 5159780352L);
        likely(Given.chain(9, 1160), 999, 2357947691L, 5159780352L);
        likely(Given.chain(9, 1201), 999, 1, 1);
        likely(Given.chain(9, 1), 999, 0, 1);
    }

    private static void goesAtOnceOrBehindAll() throws IOException {
        CHECK.about(0, "A PART GOES, if it works and all of AHEAD have gone");
        WokenByKettle x = two(0);
        for (int set = 0; set < 8; set++) {
            due("THE END of set " + set, x.gone(set, 2), set == 7 ? 17 : -2);
            due("the first of set " + set, x.gone(set, 0), (set & 1) == 1 ? 10 : -2);
        }
        WokenByKettle y = Given.chain(9, 1201);
        due("all nine", y.gone(511, 8), 9);
        for (int i = 0; i < 9; i++) {
            due("but " + i, y.gone(511 - (1 << i), 8), -2);
        }
    }

    private static void goesBehindAny() throws IOException {
        CHECK.about(0, "(ANY: any of them; without AHEAD: at once)");
        WokenByKettle x = two(1);
        int[] want = {-2, -2, -2, -2, -2, 17, 12, 12};
        for (int set = 0; set < 8; set++) {
            due("THE END of set " + set, x.gone(set, 2), want[set]);
        }
        WokenByKettle y = sure();
        y.mend(0, 1, 1);
        due("without AHEAD", y.gone(1, 0), 10);
        due("does not work", y.gone(0, 0), -2);
    }

    private static void minutesBehindTheLast() throws IOException {
        CHECK.about(0, "it has GONE TAKES minutes behind the last of them");
        due("17", two(0).gone(7, 2), 17);
        due("nine of an hour", Given.chain(9, 1260).gone(511, 8), 540);
        due("nine of a minute", Given.chain(9, 1201).gone(511, 8), 9);
    }

    private static void minutesBehindTheFirst() throws IOException {
        CHECK.about(0, "(ANY: the first of those that have gone; without AHEAD: behind minute 0)");
        WokenByKettle x = two(1);
        due("both have gone", x.gone(7, 2), 12);
        due("the slow one alone", x.gone(5, 2), 17);
        WokenByKettle y = Given.parts(0, 1203, 0, 1203, 3, 1201);
        y.mend(2, 1, 1);
        due("both at once", y.gone(7, 2), 4);
    }

    private static void minutesBehindZero() throws IOException {
        CHECK.about(0, "without AHEAD: behind minute 0");
        due("1", Given.parts(0, 1201).gone(1, 0), 1);
        due("60", Given.parts(0, 1260).gone(1, 0), 60);
    }

    private static void stuckButWaitedFor() throws IOException {
        CHECK.about(0, "It is STUCK, if it does not work, but what it waits for has gone.");
        WokenByKettle x = two(0);
        int[] all = {3, 2, 1, 4, 3, 2, 1, 0};
        WokenByKettle y = two(1);
        int[] any = {3, 6, 5, 4, 3, 2, 1, 0};
        for (int set = 0; set < 8; set++) {
            due("waits for all, set " + set, x.stuck(set), all[set]);
            due("waits for any, set " + set, y.stuck(set), any[set]);
        }
        due("nine, none works", Given.chain(9, 1201).stuck(0), 1);
        due("nine, the last does not", Given.chain(9, 1201).stuck(255), 256);
        due("nine, all work", Given.chain(9, 1201).stuck(511), 0);
    }

    private static void endInItsMinute() throws IOException {
        CHECK.about(0, "The END comes in the minute in which THE END has gone.");
        WokenByKettle x = two(0);
        due("its minute", x.morning(7), x.gone(7, 2));
        due("not when it is stuck", x.morning(3), -2);
        due("no PARTS", new WokenByKettle().morning(0), -2);
    }

    // ---- Terms: in thought

    private static void goneDoesNot() throws IOException {
        CHECK.about(0, "if a told set works (bits; NOT: it does not)");
        WokenByKettle x = two(0);
        due("it does not work", x.gone(3, 2), -2);
        due("what it waits for does not", x.gone(4, 2), -2);
        due("it does", x.gone(7, 2), 17);
        x.mend(0, 2, 0);
        due("told, whatever the odds", x.gone(7, 2), 17);
    }

    private static void likelyByAMinute() throws IOException {
        CHECK.about(0, "LIKELY: how likely THE END comes; by a minute (0 .. 999)");
        WokenByKettle x = two(1);
        likely(x, 0, 0, 1);
        likely(x, 11, 0, 1);
        likely(x, 12, 3, 4);
        likely(x, 16, 3, 4);
        likely(x, 17, 7, 8);
        likely(x, 998, 7, 8);
        likely(x, 999, 7, 8);
        due("1000", x.likely(1000, 0), MIN);
        WokenByKettle y = Given.chain(9, 1260);
        likely(y, 539, 0, 1);
        likely(y, 540, 1, 1);
    }

    private static void withoutParts() throws IOException {
        CHECK.about(0, "fractions in lowest terms (without PARTS: 0 by 1)");
        WokenByKettle x = new WokenByKettle();
        likely(x, 0, 0, 1);
        likely(x, 999, 0, 1);
        due("mean, above", x.mean(0), 0);
        due("mean, below", x.mean(1), 1);
        due("fire, above", x.fire(0), 0);
        due("fire, below", x.fire(1), 1);
    }

    private static void soonestAndLatest() throws IOException {
        CHECK.about(0, "the least, greatest minute in which THE END may come with odds above 0; NOT.");
        WokenByKettle x = two(1);
        due("soonest", x.when(0), 12);
        due("latest", x.when(1), 17);
        x.mend(1, 2, 0);
        due("no odds of 12", x.when(0), 17);
        x.mend(1, 2, 1);
        due("odds of a twelfth", x.when(0), 12);
        x.mend(1, 2, 12);
        due("no odds of 17", x.when(1), 12);
        x.mend(2, 2, 0);
        due("never, soonest", x.when(0), -2);
        due("never, latest", x.when(1), -2);
        WokenByKettle y = Given.chain(9, 160);
        due("the latest there is", y.when(1), 540);
        due("and the soonest", y.when(0), 540);
        due("the soonest there is", Given.parts(0, 101).when(0), 1);
    }

    private static void meanNever() throws IOException {
        CHECK.about(0, "the mean minute in which it comes, if it does: a fraction (never: 0 by 1)");
        WokenByKettle x = two(1);
        due("above", x.mean(0), 89);
        due("below", x.mean(1), 7);
        x.mend(2, 2, 1);
        due("as it comes seldom, above", x.mean(0), 89);
        due("as it comes seldom, below", x.mean(1), 7);
        x.mend(2, 2, 0);
        due("never, above", x.mean(0), 0);
        due("never, below", x.mean(1), 1);
        WokenByKettle y = Given.chain(9, 160);
        due("by 1 of so many, above", y.mean(0), 540);
        due("by 1 of so many, below", y.mean(1), 1);
    }

    // ---- Terms: worth, begin

    private static void worthBeginsWithin() throws IOException {
        CHECK.about(0, "WORTH of beginning at minute b (-300 .. 300; all minutes are b more)");
        WokenByKettle x = sure();
        x.mend(0, 9, 0);
        due("-300", x.worth(-300), 100000);
        due("-301", x.worth(-301), VOID);
        x.mend(0, 9, 1);
        x.mend(0, 10, 0);
        due("300", x.worth(300), 100000);
        due("301", x.worth(301), VOID);
        due("ten minutes more", x.worth(50), 100000);
        due("a minute too soon", x.worth(49), 99000);
    }

    private static void worthZeroAtLeast() throws IOException {
        CHECK.about(0, "LATE for each behind it (0 at least; 0 if it does not come)");
        WokenByKettle x = sure();
        int[][] want = {{50, 100000}, {51, 98000}, {99, 2000}, {100, 0}, {101, 0}, {300, 0}, {49, 99000}, {-49, 1000},
            {-50, 0}, {-51, 0}, {-300, 0}};
        for (int[] one : want) {
            due("worth(" + one[0] + ")", x.worth(one[0]), one[1]);
        }
        x.mend(0, 9, 20);
        x.mend(0, 10, 20);
        int[][] dear = {{46, 20000}, {45, 0}, {44, 0}, {54, 20000}, {55, 0}, {56, 0}, {50, 100000}};
        for (int[] one : dear) {
            due("worth(" + one[0] + ") where minutes cost 20", x.worth(one[0]), one[1]);
        }
        WokenByKettle y = two(1);
        due("what is far too late takes nothing from the other", y.worth(96), 3000);
    }

    private static void worthZeroWithoutEnd() throws IOException {
        CHECK.about(0, "0 if it does not come");
        WokenByKettle x = Given.parts(0, 610);
        due("half the mornings", x.worth(50), 50000);
        x.mend(0, 2, 0);
        due("never", x.worth(50), 0);
        due("no PARTS", new WokenByKettle().worth(60), 0);
    }

    private static void worthCut() throws IOException {
        CHECK.about(0, "its mean in thousandths (cut)");
        due("58333 and 1 by 3", Given.parts(0, 710).worth(50), 58333);
        due("66666 and 2 by 3", Given.parts(0, 810).worth(50), 66666);
        WokenByKettle x = Given.parts(0, 710, 0, 811, 3, 1201);
        x.mend(2, 1, 1);
        x.mend(0, 9, 0);
        x.mend(0, 10, 0);
        due("cut once, not minute by minute", x.worth(0), 86111);
    }

    private static void beginOfLikeOnes() throws IOException {
        CHECK.about(0, "BEGIN: the b by which that is most (of like ones the least); that.");
        WokenByKettle x = sure();
        due("b", x.begin(0), 50);
        due("that", x.begin(1), 100000);
        x.mend(0, 9, 0);
        due("early costs nothing", x.begin(0), -300);
        x.mend(0, 9, 1);
        x.mend(0, 10, 0);
        due("late costs nothing", x.begin(0), 50);
        x.mend(0, 9, 0);
        due("nothing costs", x.begin(0), -300);
        due("that", x.begin(1), 100000);
        due("no PARTS", new WokenByKettle().begin(0), -300);
        due("no PARTS, that", new WokenByKettle().begin(1), 0);
        due("never", Given.parts(0, 10).begin(0), -300);
        due("never, that", Given.parts(0, 10).begin(1), 0);
        due("alike, as they are cut", Given.chain(9, 101).begin(0), -300);
    }

    private static void beginAtTheEdge() throws IOException {
        CHECK.about(0, "BEGIN: the b by which that is most");
        WokenByKettle x = Given.chain(6, 1260);
        x.mend(0, 8, 0);
        x.mend(0, 10, 1);
        due("no sooner than -300", x.begin(0), -300);
        due("that", x.begin(1), 40000);
        WokenByKettle y = Given.parts(0, 1201);
        y.mend(0, 8, 300);
        due("the latest there is", y.begin(0), 299);
        due("that", y.begin(1), 100000);
    }

    // ---- Terms: double, better, out, fire

    private static void doubleOneOfBoth() throws IOException {
        CHECK.about(0, "(it works, if one of both does, each by its twelfths)");
        due("5 of twelve, twice: 95 of 144", Given.parts(0, 501).change(0, 1), 659722);
        due("11 of twelve, twice", Given.parts(0, 1101).change(0, 1), 993055);
        due("always", Given.parts(0, 1201).change(0, 1), 1000000);
        due("never", Given.parts(0, 1).change(0, 1), 0);
        due("nine", Given.chain(9, 1260).change(0, 1), 1000000);
        // 11 ^ 8 * 143 by 12 ^ 10
        due("one of nine", Given.chain(9, 1160).change(0, 1), 495068);
    }

    private static void doubleOfLikeOnes() throws IOException {
        CHECK.about(0, "makes THE END likeliest (of like ones the least)");
        WokenByKettle x = Given.parts(0, 601, 1, 601, 3, 601);
        for (int how = 0; how < 3; how++) {
            due("three alike, how " + how, x.change(how, 0), 0);
        }
        x.mend(1, 2, 5);
        for (int how = 0; how < 3; how++) {
            due("the weaker one, how " + how, x.change(how, 0), 1);
        }
        WokenByKettle y = Given.parts(0, 1, 0, 1);
        for (int how = 0; how < 2; how++) {
            due("PARTS that never work, how " + how, y.change(how, 0), how == 0 ? 0 : 1);
        }
    }

    private static void millionthsCut() throws IOException {
        CHECK.about(0, "by how many millionths it is likely then (cut)");
        due("666666 and 2 by 3", Given.parts(0, 701).change(1, 1), 666666);
        due("83333 and 1 by 3", Given.parts(0, 1).change(1, 1), 83333);
        due("less than one", Given.chain(9, 101).change(2, 1), 0);
    }

    private static void betterTwelveAtMost() throws IOException {
        CHECK.about(0, "BETTER: likewise, if twelfths of one were one more (12 at most).");
        due("11", Given.parts(0, 1101).change(1, 1), 1000000);
        due("12", Given.parts(0, 1201).change(1, 1), 1000000);
        due("0", Given.parts(0, 1).change(1, 1), 83333);
        WokenByKettle x = Given.parts(0, 1201, 1, 1101);
        due("the one that is not sure", x.change(1, 0), 1);
        WokenByKettle y = Given.parts(0, 1201, 1, 1201);
        due("both are", y.change(1, 0), 0);
        due("it cannot be more", y.change(1, 1), 1000000);
    }

    private static void outAlwaysWorks() throws IOException {
        CHECK.about(0, "OUT: likewise, if one always worked and took no minutes.");
        due("never else", Given.parts(0, 1).change(2, 1), 1000000);
        WokenByKettle x = Given.parts(0, 1, 1, 601);
        due("the one that never works", x.change(2, 0), 0);
        due("by the other", x.change(2, 1), 500000);
        WokenByKettle y = Given.parts(0, 1, 1, 1);
        due("neither works", y.change(2, 0), 0);
        due("neither works, millionths", y.change(2, 1), 0);
    }

    private static void changeWithoutParts() throws IOException {
        CHECK.about(0, "NOT: no PARTS.");
        WokenByKettle x = new WokenByKettle();
        for (int how = 0; how < 3; how++) {
            due("which, how " + how, x.change(how, 0), -2);
            due("millionths, how " + how, x.change(how, 1), -2);
        }
        x.part(0, 1);
        due("one PART", x.change(0, 0), 0);
    }

    private static void fireOfNone() throws IOException {
        CHECK.about(0, "FIRE: how likely BURNS goes, STOPS does not (one that is none: it does not go): a fraction.");
        WokenByKettle x = two(0);
        due("the same one", x.fire(0), 0);
        x.mend(0, 12, 3);
        due("STOPS is none yet, above", x.fire(0), 1);
        due("STOPS is none yet, below", x.fire(1), 2);
        x.mend(0, 11, 3);
        due("both are none", x.fire(0), 0);
        x.mend(0, 12, 0);
        due("BURNS is none", x.fire(0), 0);
        due("BURNS is none, below", x.fire(1), 1);
        x.part(0, 1201);
        due("now it is one, above", x.fire(0), 1);
        due("now it is one, below", x.fire(1), 2);
        x.mend(0, 11, 8);
        x.mend(0, 12, 8);
        due("8 is none", x.fire(1), 1);
        WokenByKettle y = Given.chain(9, 1201);
        y.mend(0, 11, 7);
        y.mend(0, 12, 8);
        y.mend(8, 2, 0);
        due("8 is one", y.fire(0), 1);
    }

    // ---- promises 9 to 17

    private static void goneBad() throws IOException {
        CHECK.about(9, "BAD; NOT.");
        WokenByKettle x = two(0);
        due("set -1", x.gone(-1, 0), -1);
        due("set 512", x.gone(512, 0), -1);
        due("lowest set", x.gone(LOWEST, 0), -1);
        due("highest set", x.gone(HIGHEST, 0), -1);
        due("set 511", x.gone(511, 0), 10);
        due("no such PART", x.gone(7, 3), -1);
        due("PART -1", x.gone(7, -1), -1);
        due("PART 9", x.gone(7, 9), -1);
        due("highest PART", x.gone(7, HIGHEST), -1);
        due("lowest PART", x.gone(7, LOWEST), -1);
        due("no PARTS", new WokenByKettle().gone(0, 0), -1);
        due("BAD is named first", x.gone(0, 3), -1);
    }

    private static void goneNot() throws IOException {
        CHECK.about(9, "The minute in which a PART has gone, if a set works. BAD; NOT.");
        WokenByKettle x = two(0);
        due("set 0", x.gone(0, 0), -2);
        due("set 1", x.gone(1, 0), 10);
    }

    private static void stuckBad() throws IOException {
        CHECK.about(10, "STUCK: bits. BAD.");
        WokenByKettle x = two(0);
        due("-1", x.stuck(-1), -1);
        due("512", x.stuck(512), -1);
        due("lowest", x.stuck(LOWEST), -1);
        due("highest", x.stuck(HIGHEST), -1);
        due("0", x.stuck(0), 3);
        due("511", x.stuck(511), 0);
    }

    private static void likelyEver() throws IOException {
        CHECK.about(11, "THE END by a minute (999: ever;");
        WokenByKettle x = Given.chain(9, 1160);
        likely(x, 999, 2357947691L, 5159780352L);
        likely(x, 540, 2357947691L, 5159780352L);
        likely(x, 539, 0, 1);
    }

    private static void likelyOfAPart() throws IOException {
        CHECK.about(11, "minute -1 less a PART's number: that it goes)");
        WokenByKettle x = two(0);
        likely(x, -1, 1, 2);
        likely(x, -2, 3, 4);
        likely(x, -3, 3, 8);
        due("none yet", x.likely(-4, 0), MIN);
        WokenByKettle y = Given.chain(9, 101);
        likely(y, -1, 1, 12);
        likely(y, -9, 1, 5159780352L);
        due("a tenth", y.likely(-10, 0), MIN);
        due("no PARTS", new WokenByKettle().likely(-1, 0), MIN);
    }

    private static void likelyBad() throws IOException {
        CHECK.about(11, "Long.MIN_VALUE: BAD.");
        WokenByKettle x = two(0);
        due("minute 1000", x.likely(1000, 0), MIN);
        due("highest minute", x.likely(HIGHEST, 1), MIN);
        due("lowest minute", x.likely(LOWEST, 1), MIN);
        due("minute -10", x.likely(-10, 0), MIN);
        due("part 2", x.likely(999, 2), MIN);
        due("part -1", x.likely(999, -1), MIN);
        due("highest part", x.likely(999, HIGHEST), MIN);
        due("part 2 of no PARTS", new WokenByKettle().likely(0, 2), MIN);
    }

    private static void whenBadAndNot() throws IOException {
        CHECK.about(12, "BAD; NOT.");
        WokenByKettle x = two(0);
        due("what -1", x.when(-1), -1);
        due("what 2", x.when(2), -1);
        due("lowest what", x.when(LOWEST), -1);
        due("no PARTS", new WokenByKettle().when(0), -2);
        due("no PARTS", new WokenByKettle().when(1), -2);
        due("BAD is named first", new WokenByKettle().when(2), -1);
    }

    private static void meanBad() throws IOException {
        CHECK.about(13, "MEAN. Long.MIN_VALUE: BAD.");
        WokenByKettle x = two(0);
        due("part -1", x.mean(-1), MIN);
        due("part 2", x.mean(2), MIN);
        due("highest part", x.mean(HIGHEST), MIN);
        due("part 2 of no PARTS", new WokenByKettle().mean(2), MIN);
        due("part 0", x.mean(0), 17);
        due("part 1", x.mean(1), 1);
    }

    private static void worthVoid() throws IOException {
        CHECK.about(14, "WORTH. VOID: BAD.");
        WokenByKettle x = sure();
        due("-301", x.worth(-301), VOID);
        due("301", x.worth(301), VOID);
        due("lowest", x.worth(LOWEST), VOID);
        due("highest", x.worth(HIGHEST), VOID);
        due("-300", x.worth(-300), 0);
        due("300", x.worth(300), 0);
        due("no PARTS", new WokenByKettle().worth(301), VOID);
    }

    private static void beginVoid() throws IOException {
        CHECK.about(15, "BEGIN: when (what 0), that (1). VOID: BAD.");
        WokenByKettle x = sure();
        due("-1", x.begin(-1), VOID);
        due("2", x.begin(2), VOID);
        due("highest", x.begin(HIGHEST), VOID);
        due("lowest", x.begin(LOWEST), VOID);
        due("no PARTS", new WokenByKettle().begin(2), VOID);
    }

    private static void changeBadAndNot() throws IOException {
        CHECK.about(16, "which (what 0), millionths (1). BAD; NOT.");
        WokenByKettle x = sure();
        due("how -1", x.change(-1, 0), -1);
        due("how 3", x.change(3, 0), -1);
        due("lowest how", x.change(LOWEST, 0), -1);
        due("highest how", x.change(HIGHEST, 0), -1);
        due("what -1", x.change(0, -1), -1);
        due("what 2", x.change(0, 2), -1);
        due("BAD is named first", new WokenByKettle().change(3, 0), -1);
        due("BAD is named first", new WokenByKettle().change(0, 2), -1);
        due("NOT", new WokenByKettle().change(2, 1), -2);
    }

    private static void fireBad() throws IOException {
        CHECK.about(17, "FIRE. Long.MIN_VALUE: BAD.");
        WokenByKettle x = sure();
        due("-1", x.fire(-1), MIN);
        due("2", x.fire(2), MIN);
        due("highest", x.fire(HIGHEST), MIN);
        due("lowest", x.fire(LOWEST), MIN);
        due("no PARTS", new WokenByKettle().fire(2), MIN);
    }
}
