import java.io.IOException;

/** One test for each sentence of promises 1 to 8, and of the Terms about PARTS and THE LAW, that names an edge. */
public final class EdgesPartsTest {
    private static final Check CHECK = new Check("EdgesPartsTest");
    private static final int LOWEST = Integer.MIN_VALUE, HIGHEST = Integer.MAX_VALUE;

    public static void main(String[] args) throws IOException {
        newObject();
        ninePartsAreAll();
        aheadIsOfLessNumber();
        withoutAheadAtOnce();
        anyIsZeroOrOne();
        worksOfTwelve();
        takesMinutes();
        wearAtFirst();
        ageAtFirst();
        theEndIsTheGreatest();
        dampAtFirst();
        guestsAtFirst();
        readyAtFirst();
        earlyAndLateAtFirst();
        burnsAndStopsAtFirst();
        tapeOf120();
        linesOneOrMore();
        lineWithOneFirst();
        oneComparisonAlone();
        fourDigitsAtMost();
        noBlanks();
        namesAreSix();
        sixOpenAtMost();
        intsWrap();
        byZero();
        towardZero();
        signsGiveOneOrZero();
        allIsWorkedOut();
        firstLineThatCounts();
        noLineCounts();
        faultIsThePlace();
        faultIsTheLength();
        heldWithinTwelve();
        withoutText();
        partIsBad();
        partAheadBeyond();
        partFull();
        partTellsWorksAndTakes();
        partsBelowZero();
        partsOneToNine();
        partsNoShorts();
        partsMissing();
        partsRowEnds();
        partsOneAsItMayNotBe();
        partsFull();
        mendAheadOfLess();
        mendNumberZero();
        mendWhatItWas();
        mendBad();
        ofBad();
        feedByte();
        feedFull();
        lawFault();
        lawEmptiesTheTape();
        worksBad();
        CHECK.end();
    }

    private static void due(String call, long got, long want) {
        CHECK.due(call, got, want);
    }

    /** A number of mend() holds from .. to, and nothing beside; it is first at first. */
    private static void range(WokenByKettle x, int number, int what, int from, int to, int first) {
        due("of(" + number + ", " + what + ") at first", x.of(number, what), first);
        due("one below", x.mend(number, what, from - 1), -1);
        due("one above", x.mend(number, what, to + 1), -1);
        due("lowest int", x.mend(number, what, LOWEST), -1);
        due("highest int", x.mend(number, what, HIGHEST), -1);
        due("as it was", x.of(number, what), first);
        due("the least", x.mend(number, what, from), first);
        due("the least is there", x.of(number, what), from);
        due("the most", x.mend(number, what, to), from);
        due("the most is there", x.of(number, what), to);
    }

    // ---- a new object

    private static void newObject() throws IOException {
        CHECK.about(1, "No parts, a dry kitchen.");
        WokenByKettle x = new WokenByKettle();
        due("PARTS", x.count(0), 0);
        due("DAMP", x.of(0, 6), 0);
        due("no PART works", x.works(0), -1);
        due("no PART has a number", x.of(0, 2), -1);
        for (int what = 1; what < 5; what++) {
            due("count(" + what + ")", x.count(what), 0);
        }
    }

    // ---- Terms: PARTS

    private static void ninePartsAreAll() throws IOException {
        CHECK.about(0, "PARTS 0 .. 8, as they come");
        WokenByKettle x = new WokenByKettle();
        for (int i = 0; i < 9; i++) {
            due("the next number", x.part(0, 1201), i);
        }
        due("no tenth", x.part(0, 1201), -3);
        due("nine", x.count(0), 9);
        due("the ninth works", x.works(8), 12);
        due("none beyond", x.works(9), -1);
    }

    private static void aheadIsOfLessNumber() throws IOException {
        CHECK.about(0, "AHEAD (bits of PARTS of less number: for which it waits; none: it begins at once)");
        WokenByKettle x = new WokenByKettle();
        for (int i = 0; i < 9; i++) {
            due("itself", x.part(1 << i, 1201), -1);
            due("all of less number", x.part((1 << i) - 1, 1201), i);
            due("its AHEAD", x.of(i, 0), (1 << i) - 1);
        }
    }

    private static void withoutAheadAtOnce() throws IOException {
        CHECK.about(0, "none: it begins at once");
        WokenByKettle x = Given.parts(0, 1203, 0, 1207);
        due("not behind the one of less number", x.gone(2, 1), 7);
        due("with it", x.gone(3, 1), 7);
    }

    private static void anyIsZeroOrOne() throws IOException {
        CHECK.about(0, "ANY (0: it waits for all of them, 1: for any one; 0 at first)");
        WokenByKettle x = Given.parts(0, 1203, 0, 1207, 3, 1201);
        due("all of them at first", x.gone(5, 2), -2);
        range(x, 2, 1, 0, 1, 0);
        due("any one of them", x.gone(5, 2), 4);
    }

    private static void worksOfTwelve() throws IOException {
        CHECK.about(0, "WORKS (0 .. 12 of twelve)");
        range(Given.parts(0, 501), 0, 2, 0, 12, 5);
        WokenByKettle x = new WokenByKettle();
        due("part of 13 twelfths", x.part(0, 1301), -1);
        due("part of 12 twelfths", x.part(0, 1201), 0);
        due("part of none", x.part(0, 1), 1);
    }

    private static void takesMinutes() throws IOException {
        CHECK.about(0, "TAKES (1 .. 60 minutes)");
        range(Given.parts(0, 1205), 0, 3, 1, 60, 5);
        WokenByKettle x = new WokenByKettle();
        due("part of no minute", x.part(0, 1200), -1);
        due("part of 61 minutes", x.part(0, 1161), -1);
        due("part of 99 minutes", x.part(0, 1199), -1);
        due("part of 1 minute", x.part(0, 1201), 0);
        due("part of 60 minutes", x.part(0, 1260), 1);
    }

    private static void wearAtFirst() throws IOException {
        CHECK.about(0, "WEAR (0 .. 9; 0 at first)");
        range(Given.parts(0, 1205), 0, 4, 0, 9, 0);
    }

    private static void ageAtFirst() throws IOException {
        CHECK.about(0, "AGE (0 .. 99 mornings; 0 at first)");
        range(Given.parts(0, 1205), 0, 5, 0, 99, 0);
    }

    private static void theEndIsTheGreatest() throws IOException {
        CHECK.about(0, "THE END is the PART of greatest number.");
        WokenByKettle x = new WokenByKettle();
        due("no PARTS, no END", x.morning(511), -2);
        x.part(0, 1204);
        due("the only one", x.morning(1), 4);
        x.part(0, 1209);
        due("the new one", x.morning(3), 9);
        due("the old one alone", x.morning(1), -2);
    }

    private static void dampAtFirst() throws IOException {
        CHECK.about(0, "DAMP (0 .. 9; 0 at first)");
        range(new WokenByKettle(), 0, 6, 0, 9, 0);
    }

    private static void guestsAtFirst() throws IOException {
        CHECK.about(0, "GUESTS (0, 1; 0 at first)");
        range(new WokenByKettle(), 0, 7, 0, 1, 0);
    }

    private static void readyAtFirst() throws IOException {
        CHECK.about(0, "READY (0 .. 300: the minute tea should be; 60 at first)");
        range(new WokenByKettle(), 0, 8, 0, 300, 60);
    }

    private static void earlyAndLateAtFirst() throws IOException {
        CHECK.about(0, "EARLY, LATE (0 .. 20: what a minute too soon, too late costs; 1, 2 at first)");
        range(new WokenByKettle(), 0, 9, 0, 20, 1);
        range(new WokenByKettle(), 0, 10, 0, 20, 2);
    }

    private static void burnsAndStopsAtFirst() throws IOException {
        CHECK.about(0, "BURNS, STOPS (numbers of PARTS 0 .. 8 or ones that are none yet; 0, 0 at first)");
        range(new WokenByKettle(), 0, 11, 0, 8, 0);
        range(new WokenByKettle(), 0, 12, 0, 8, 0);
        WokenByKettle x = new WokenByKettle();
        x.mend(0, 11, 1);
        x.part(0, 1201);
        due("none yet", x.fire(0), 0);
        x.part(0, 1201);
        due("now it is one", x.fire(0), 0);
        x.mend(0, 12, 8);
        due("nothing stops it", x.fire(0), 1);
    }

    // ---- Terms: THE LAW

    /** The law is taken, and gives so many twelfths to a PART of 7 twelfths. */
    private static void gives(String text, int want) {
        WokenByKettle x = Given.parts(0, 701);
        due("law() of " + text, Given.law(x, text), 1);
        due("works(0) by " + text, x.works(0), want);
    }

    /** The law has its fault at a place, and the one before stays. */
    private static void fault(String text, int place) {
        WokenByKettle x = Given.parts(0, 701);
        Given.law(x, "w+2");
        due("law() of " + text, Given.law(x, text), -100 - place);
        due("the law before " + text, x.works(0), 9);
    }

    private static void tapeOf120() throws IOException {
        CHECK.about(0, "THE LAW is a TEXT by THE TAPE (at most 120 bytes)");
        gives("12" + "+0".repeat(59), 12);
        gives("1" + "+0".repeat(58) + "-0", 1);
        fault("12" + "+0".repeat(58) + "+", 119);
        fault("1" + "+0".repeat(59) + "+", 120);
        WokenByKettle x = Given.parts(0, 701);
        due("the 121st byte is lost", Given.law(x, "12" + "+0".repeat(59) + "-9"), 1);
        due("by 120 bytes", x.works(0), 12);
    }

    private static void linesOneOrMore() throws IOException {
        CHECK.about(0, "LINES, one or more, parted by ;");
        fault("", 0);
        fault(";", 0);
        fault("5;", 2);
        fault("5;;6", 2);
        fault(";5", 0);
        gives("5", 5);
        gives("5;6", 5);
        gives("0?1;".repeat(29) + "1?11", 11);
    }

    private static void lineWithOneFirst() throws IOException {
        CHECK.about(0, "LINE: E, or E ? E (what counts if the first is not 0)");
        gives("1?4", 4);
        fault("1?4?5", 3);
        fault("1??4", 2);
        fault("?4", 0);
        fault("1?", 2);
        fault("(1?4)", 2);
        fault("(1;4)", 2);
    }

    private static void oneComparisonAlone() throws IOException {
        CHECK.about(0, "B = S, or S < S, S = S, S > S.");
        fault("1<2<3", 3);
        fault("1=2=3", 3);
        fault("1>2<3", 3);
        gives("(1<2)<3", 1);
        gives("1<2&2<3", 1);
        gives("1<2|3<2", 1);
        gives("1+1=2", 1);
    }

    private static void fourDigitsAtMost() throws IOException {
        CHECK.about(0, "O = a number (1 to 4 digits)");
        gives("7", 7);
        gives("0007", 7);
        gives("9999=9*1111", 1);
        fault("00007", 4);
        fault("12345", 4);
        fault("w-12345", 6);
        fault("1w", 1);
    }

    private static void noBlanks() throws IOException {
        CHECK.about(0, "No blanks.");
        fault(" 7", 0);
        fault("7 ", 1);
        fault("7 +1", 1);
        fault("7+ 1", 2);
    }

    private static void namesAreSix() throws IOException {
        CHECK.about(0, "NAMES: w WORKS, d DAMP, a AGE, e WEAR, g GUESTS, p the PART.");
        WokenByKettle x = Given.parts(0, 101, 0, 101, 0, 801);
        x.mend(2, 5, 9);
        x.mend(2, 4, 4);
        x.mend(0, 6, 3);
        x.mend(0, 7, 1);
        String names = "wdaegp";
        int[] want = {8, 3, 9, 4, 1, 2};
        for (int i = 0; i < 6; i++) {
            due("law", Given.law(x, names.substring(i, i + 1)), 1);
            due("works(2) by " + names.charAt(i), x.works(2), want[i]);
        }
        for (char c = 0; c < 256; c++) {
            boolean known = names.indexOf(c) >= 0 || (c >= '0' && c <= '9');
            boolean open = c == '(' || c == '!' || c == '-';
            WokenByKettle y = new WokenByKettle();
            due("a text of byte " + (int) c, Given.law(y, c + ""), known ? 1 : open ? -101 : -100);
        }
    }

    private static void sixOpenAtMost() throws IOException {
        CHECK.about(0, "At most 6 of ( ! - ahead of an O are open at once.");
        gives("((((((5))))))", 5);
        fault("(((((((5)))))))", 6);
        gives("!!!!!!5", 1);
        fault("!!!!!!!5", 6);
        gives("------5", 5);
        fault("-------5", 6);
        gives("(-!(-!5))", 0);
        fault("(-!(-!(5)))", 6);
        fault("((((((-5))))))", 6);
        fault("((((((!5))))))", 6);
        gives("((((((5))))))-((((((3))))))", 2);
        gives("((((((9-1-1))))))", 7);
        fault("((((((9--1))))))", 8);
        gives("!!!!!!5+!!!!!!5", 2);
        gives("(!!!!!5+!!!!!5)", 0);
        fault("(!!!!!5+!!!!!!5)", 13);
        gives("12-!!!!!!5", 11);
    }

    private static void intsWrap() throws IOException {
        CHECK.about(0, "Ints that wrap");
        gives("8192*8192*32<0", 1);
        gives("8192*8192*32-1>0", 1);
        gives("8192*8192*64=0", 1);
        gives("-(8192*8192*32)<0", 1);
        gives("8192*8192*32-1+1<0", 1);
        gives("9999*9999*9999<0", 1);
    }

    private static void byZero() throws IOException {
        CHECK.about(0, "/ and % toward 0, by 0 they give 0");
        gives("9/0", 0);
        gives("9/0+3", 3);
        gives("9%0", 0);
        gives("9%0+4", 4);
        gives("0/0+5", 5);
        gives("9/(w-7)+6", 6);
        gives("0?9/0;8", 8);
    }

    private static void towardZero() throws IOException {
        CHECK.about(0, "/ and % toward 0");
        gives("-7/2+12", 9);
        gives("7/-2+12", 9);
        gives("-7/-2", 3);
        gives("-7%3+12", 11);
        gives("7%-3", 1);
        gives("8192*8192*32/-1<0", 1);
        gives("8192*8192*32%-1+5", 5);
    }

    private static void signsGiveOneOrZero() throws IOException {
        CHECK.about(0, "| & < = > ! give 1, 0");
        gives("5|0", 1);
        gives("0|0", 0);
        gives("4&7", 1);
        gives("4&0", 0);
        gives("2<3", 1);
        gives("3<3", 0);
        gives("3=3", 1);
        gives("3=4", 0);
        gives("4>3", 1);
        gives("3>3", 0);
        gives("!0", 1);
        gives("!9", 0);
        gives("!(-1)", 0);
        gives("-1|0", 1);
        gives("-1&-1", 1);
        gives("-1<0", 1);
    }

    private static void allIsWorkedOut() throws IOException {
        CHECK.about(0, "all is worked out");
        gives("0&9/0", 0);
        gives("1|9%0", 1);
        gives("(0&9/0)+5", 5);
    }

    private static void firstLineThatCounts() throws IOException {
        CHECK.about(0, "The first LINE without a first E, or whose first E is not 0, counts");
        gives("5;6;7", 5);
        gives("0?5;6;7", 6);
        gives("0?5;1?6;7", 6);
        gives("-1?4;6", 4);
        gives("0?5;0?6;7;1?8", 7);
        gives("1?0;9", 0);
    }

    private static void noLineCounts() throws IOException {
        CHECK.about(0, "none: 0");
        gives("0?5", 0);
        gives("0?5;0?6;w-7?8", 0);
    }

    private static void faultIsThePlace() throws IOException {
        CHECK.about(0, "FAULT: the place (from 0) of the first byte with which no TEXT goes on");
        fault("x", 0);
        fault("+5", 0);
        fault("5)", 1);
        fault("()", 1);
        fault("5x6", 1);
        fault("5+*6", 2);
        fault("(5))", 3);
        fault("w\u00ff", 1);
        fault("\u0000", 0);
        fault("1" + "+0".repeat(58) + "xx", 117);
    }

    private static void faultIsTheLength() throws IOException {
        CHECK.about(0, "the length, if it ends too early");
        fault("", 0);
        fault("5+", 2);
        fault("(", 1);
        fault("(5", 2);
        fault("!", 1);
        fault("-", 1);
        fault("5<", 2);
        fault("((((((", 6);
        fault("5?", 2);
        fault("5;", 2);
    }

    private static void heldWithinTwelve() throws IOException {
        CHECK.about(0, "(held within 0 .. 12)");
        gives("13", 12);
        gives("12", 12);
        gives("11", 11);
        gives("1", 1);
        gives("0", 0);
        gives("-1", 0);
        gives("9999", 12);
        gives("-9999", 0);
        gives("8192*8192*32", 0);
        gives("8192*8192*32-1", 12);
    }

    private static void withoutText() throws IOException {
        CHECK.about(0, "Without a text: w less d by 3 (cut), less a times e by 10 (cut), less g.");
        int[][] told = {
            {12, 0, 0, 0, 0, 12}, {12, 2, 0, 0, 0, 12}, {12, 3, 0, 0, 0, 11}, {12, 5, 0, 0, 0, 11}, {12, 9, 0, 0, 0, 9},
            {12, 0, 9, 1, 0, 12}, {12, 0, 10, 1, 0, 11}, {12, 0, 19, 1, 0, 11}, {12, 0, 5, 9, 0, 8}, {12, 0, 0, 0, 1, 11},
            {12, 0, 99, 9, 0, 0}, {0, 9, 99, 9, 1, 0}, {1, 0, 0, 0, 1, 0}, {0, 0, 0, 0, 1, 0}, {12, 9, 13, 9, 1, 0},
            {12, 2, 9, 1, 0, 12}, {12, 9, 10, 7, 1, 1}};
        for (int[] one : told) {
            WokenByKettle x = Given.parts(0, 100 * one[0] + 1);
            x.mend(0, 6, one[1]);
            x.mend(0, 5, one[2]);
            x.mend(0, 4, one[3]);
            x.mend(0, 7, one[4]);
            due("w " + one[0] + " d " + one[1] + " a " + one[2] + " e " + one[3] + " g " + one[4], x.works(0), one[5]);
        }
    }

    // ---- promise 2

    private static void partIsBad() throws IOException {
        CHECK.about(2, "BAD (AHEAD beyond those that are there, too)");
        WokenByKettle x = new WokenByKettle();
        int[] wts = {-1, -99, -100, -1100, LOWEST, HIGHEST, 0, 100, 1200, 61, 99, 161, 1261, 1300, 1301, 1360, 9901};
        for (int wt : wts) {
            due("part(0, " + wt + ")", x.part(0, wt), -1);
        }
        due("AHEAD below 0", x.part(-1, 1201), -1);
        due("lowest AHEAD", x.part(LOWEST, 1201), -1);
        due("none came", x.count(0), 0);
    }

    private static void partAheadBeyond() throws IOException {
        CHECK.about(2, "(AHEAD beyond those that are there, too)");
        WokenByKettle x = new WokenByKettle();
        due("none is there", x.part(1, 1201), -1);
        due("highest", x.part(HIGHEST, 1201), -1);
        x.part(0, 1201);
        due("one is there", x.part(2, 1201), -1);
        due("one of two is there", x.part(3, 1201), -1);
        due("it is there", x.part(1, 1201), 1);
        WokenByKettle y = Given.chain(9, 1201);
        due("beyond nine, ahead of FULL", y.part(512, 1201), -1);
    }

    private static void partFull() throws IOException {
        CHECK.about(2, "FULL: 9.");
        WokenByKettle x = Given.chain(8, 1201);
        due("the ninth", x.part(255, 1201), 8);
        due("a tenth", x.part(0, 1201), -3);
        due("a tenth behind all", x.part(511, 1260), -3);
        due("BAD is named first", x.part(0, 1300), -1);
        due("BAD is named first", x.part(-1, 1201), -1);
        due("nine", x.count(0), 9);
    }

    private static void partTellsWorksAndTakes() throws IOException {
        CHECK.about(2, "(wt: 100 times WORKS, and TAKES)");
        WokenByKettle x = Given.parts(0, 1, 0, 1260, 0, 160);
        int[][] want = {{0, 1}, {12, 60}, {1, 60}};
        for (int i = 0; i < 3; i++) {
            due("WORKS of " + i, x.of(i, 2), want[i][0]);
            due("TAKES of " + i, x.of(i, 3), want[i][1]);
        }
    }

    // ---- promise 3

    private static void partsBelowZero() throws IOException {
        CHECK.about(3, "how many came (0 with i below 0)");
        WokenByKettle x = new WokenByKettle();
        Given.shorts(x, 0, 0, 12, 5, 0, 11, 6);
        due("i -1", x.parts(0, -1, 1), 0);
        due("i -3", x.parts(0, -3, 9), 0);
        due("lowest i", x.parts(0, LOWEST, 9), 0);
        due("none came", x.count(0), 0);
        due("i 0", x.parts(0, 0, 9), 2);
    }

    private static void partsOneToNine() throws IOException {
        CHECK.about(3, "n (1 .. 9) of them");
        WokenByKettle x = new WokenByKettle();
        Given.shorts(x, 0, new long[] {0, 1, 1, 0, 2, 2, 0, 3, 3, 0, 4, 4, 0, 5, 5, 0, 6, 6, 0, 7, 7, 0, 8, 8, 0, 9, 9});
        int[] bad = {0, -1, 10, LOWEST, HIGHEST};
        for (int n : bad) {
            due("n " + n, x.parts(0, 0, n), -1);
            due("n " + n + " with i below 0", x.parts(0, -1, n), -1);
            due("n " + n + " of nothing", x.parts(1, 0, n), -1);
        }
        due("none came", x.count(0), 0);
        due("n 1", x.parts(0, 0, 1), 1);
        due("one came", x.count(0), 1);
        WokenByKettle y = new WokenByKettle();
        Given.shorts(y, 0, new long[] {0, 1, 1, 0, 2, 2, 0, 3, 3, 0, 4, 4, 0, 5, 5, 0, 6, 6, 0, 7, 7, 0, 8, 8, 0, 9, 9});
        due("n 9", y.parts(0, 0, 9), 9);
        due("the last of them", y.of(8, 2), 9);
    }

    private static void partsNoShorts() throws IOException {
        CHECK.about(3, "BAD, -12 (no ROW of shorts; a SHELF that holds nothing is missing)");
        WokenByKettle x = new WokenByKettle();
        int[] sorts = {0, 2, 3, 4};
        for (int sort : sorts) {
            x.row(0, sort, 3);
            x.put(0, 2, 1);
            due("sort " + sort, x.parts(0, 0, 1), -12);
        }
        x.keep(0, x.body(0));
        due("a BODY", x.parts(0, 0, 1), -12);
        due("shelf below", x.parts(-1, 0, 1), -1);
        due("shelf above", x.parts(6, 0, 1), -1);
        due("lowest shelf", x.parts(LOWEST, 0, 1), -1);
        due("none came", x.count(0), 0);
    }

    private static void partsMissing() throws IOException {
        CHECK.about(3, "a SHELF that holds nothing is missing");
        WokenByKettle x = new WokenByKettle();
        for (int shelf = 0; shelf < 6; shelf++) {
            due("nothing at first", x.parts(shelf, 0, 9), 0);
        }
        Given.shorts(x, 5, 0, 12, 5);
        x.keep(5, -1);
        due("nothing any more", x.parts(5, 0, 1), 0);
    }

    private static void partsRowEnds() throws IOException {
        CHECK.about(0, "it ends where the row is missing, ends (within a three, too)");
        WokenByKettle x = new WokenByKettle();
        x.row(0, 1, 0);
        due("an empty row", x.parts(0, 0, 1), 0);
        Given.shorts(x, 0, 0, 12);
        due("within the first three", x.parts(0, 0, 1), 0);
        Given.shorts(x, 0, 0, 12, 5);
        due("just a three", x.parts(0, 0, 2), 1);
        due("behind its end", x.parts(0, 3, 1), 0);
        due("far behind", x.parts(0, HIGHEST, 9), 0);
        due("so that three more wrap", x.parts(0, HIGHEST - 2, 9), 0);
        Given.shorts(x, 0, 0, 12, 5, 0, 12, 5, 0, 12);
        due("within the third", x.parts(0, 0, 3), 2);
        due("from a place on", x.parts(0, 3, 3), 1);
        due("four in all", x.count(0), 4);
        WokenByKettle y = new WokenByKettle();
        y.row(0, 1, 60);
        y.put(0, 58, 12);
        y.put(0, 59, 60);
        due("the last three of sixty", y.parts(0, 57, 1), 1);
        due("behind it", y.parts(0, 58, 1), 0);
    }

    private static void partsOneAsItMayNotBe() throws IOException {
        CHECK.about(0, "one is not as it may be, or PARTS are FULL: those ahead came.");
        long[][] wrong = {{2, 12, 5}, {-1, 12, 5}, {-32768, 12, 5}, {0, 13, 5}, {0, -1, 5}, {0, 12, 0}, {0, 12, 61},
            {0, 12, -1}, {32767, 12, 5}};
        for (long[] one : wrong) {
            WokenByKettle x = new WokenByKettle();
            Given.shorts(x, 0, 0, 12, 5, one[0], one[1], one[2], 0, 12, 5);
            due("behind one of " + one[0] + ", " + one[1] + ", " + one[2], x.parts(0, 0, 3), 1);
            due("those ahead", x.count(0), 1);
            due("it alone", x.parts(0, 3, 1), 0);
        }
        WokenByKettle y = new WokenByKettle();
        Given.shorts(y, 0, 0, 12, 5, 1, 12, 5, 3, 12, 5);
        due("AHEAD of those that just came", y.parts(0, 0, 3), 3);
        due("its AHEAD", y.of(2, 0), 3);
    }

    private static void partsFull() throws IOException {
        CHECK.about(0, "PARTS are FULL: those ahead came.");
        WokenByKettle x = Given.chain(7, 1201);
        Given.shorts(x, 0, 0, 1, 1, 0, 2, 2, 0, 3, 3);
        due("two more", x.parts(0, 0, 3), 2);
        due("nine", x.count(0), 9);
        due("the ninth", x.of(8, 2), 2);
        due("none more", x.parts(0, 0, 3), 0);
    }

    // ---- promises 4 to 8

    private static void mendAheadOfLess() throws IOException {
        CHECK.about(4, "AHEAD (what 0; of less number)");
        WokenByKettle x = Given.chain(9, 1201);
        for (int i = 0; i < 9; i++) {
            int all = (1 << i) - 1;
            due("itself", x.mend(i, 0, 1 << i), -1);
            due("below 0", x.mend(i, 0, -1), -1);
            due("highest", x.mend(i, 0, HIGHEST), -1);
            due("none", x.mend(i, 0, 0), all);
            due("all of less number", x.mend(i, 0, all), 0);
            due("its AHEAD", x.of(i, 0), all);
        }
    }

    private static void mendNumberZero() throws IOException {
        CHECK.about(4, "STOPS (12; number 0 for these, another: BAD)");
        WokenByKettle x = Given.parts(0, 1201, 0, 1201);
        for (int what = 6; what < 13; what++) {
            int now = x.of(0, what);
            due("number 1 for " + what, x.mend(1, what, 1), -1);
            due("number -1 for " + what, x.mend(-1, what, 1), -1);
            due("lowest number for " + what, x.mend(LOWEST, what, 1), -1);
            due("as it was", x.of(0, what), now);
            due("number 0 for " + what, x.mend(0, what, 1), now);
        }
        due("without PARTS, too", new WokenByKettle().mend(0, 12, 8), 0);
    }

    private static void mendWhatItWas() throws IOException {
        CHECK.about(4, "becomes v: what it was. BAD.");
        WokenByKettle x = Given.parts(0, 1105);
        due("what it was", x.mend(0, 2, 12), 11);
        due("the same", x.mend(0, 2, 12), 12);
        due("0", x.mend(0, 2, 0), 12);
        due("was 0", x.mend(0, 2, 1), 0);
    }

    private static void mendBad() throws IOException {
        CHECK.about(4, "BAD.");
        WokenByKettle x = Given.parts(0, 1105, 1, 1105);
        for (int what = 0; what < 6; what++) {
            due("no such PART for " + what, x.mend(2, what, 1), -1);
            due("PART -1 for " + what, x.mend(-1, what, 1), -1);
            due("PART 9 for " + what, x.mend(9, what, 1), -1);
            due("lowest PART for " + what, x.mend(LOWEST, what, 1), -1);
            due("highest PART for " + what, x.mend(HIGHEST, what, 1), -1);
            due("no PARTS for " + what, new WokenByKettle().mend(0, what, 1), -1);
        }
        due("what 13", x.mend(0, 13, 0), -1);
        due("what -1", x.mend(0, -1, 0), -1);
        due("lowest what", x.mend(0, LOWEST, 0), -1);
        due("highest what", x.mend(0, HIGHEST, 0), -1);
        due("no CHANGE came", x.count(2), 0);
    }

    private static void ofBad() throws IOException {
        CHECK.about(5, "As of mend() (0 to 12). BAD.");
        WokenByKettle x = Given.parts(0, 1105);
        due("what 0", x.of(0, 0), 0);
        due("what 12", x.of(0, 12), 0);
        due("what 13", x.of(0, 13), -1);
        due("what -1", x.of(0, -1), -1);
        due("highest what", x.of(0, HIGHEST), -1);
        due("lowest what", x.of(0, LOWEST), -1);
        for (int what = 0; what < 13; what++) {
            due("number 1", x.of(1, what), -1);
            due("number -1", x.of(-1, what), -1);
            due("number 9", x.of(9, what), -1);
            due("highest number", x.of(HIGHEST, what), -1);
        }
        due("no PARTS", new WokenByKettle().of(0, 5), -1);
    }

    private static void feedByte() throws IOException {
        CHECK.about(6, "A byte (0 .. 255) comes to THE TAPE: how many it has.");
        WokenByKettle x = new WokenByKettle();
        due("-1", x.feed(-1), -1);
        due("256", x.feed(256), -1);
        due("lowest", x.feed(LOWEST), -1);
        due("highest", x.feed(HIGHEST), -1);
        due("none came", x.count(1), 0);
        due("0", x.feed(0), 1);
        due("255", x.feed(255), 2);
    }

    private static void feedFull() throws IOException {
        CHECK.about(6, "BAD, FULL (120).");
        WokenByKettle x = new WokenByKettle();
        for (int i = 1; i <= 120; i++) {
            due("byte " + i, x.feed('w'), i);
        }
        due("the 121st", x.feed('w'), -3);
        due("BAD is named first", x.feed(256), -1);
        due("BAD is named first", x.feed(-1), -1);
        due("120", x.count(1), 120);
        x.law();
        due("there is room again", x.feed('w'), 1);
    }

    private static void lawFault() throws IOException {
        CHECK.about(7, "THE TAPE becomes THE LAW: 1; -100 less its FAULT");
        WokenByKettle x = Given.parts(0, 701);
        due("an empty tape", x.law(), -100);
        due("without a text still", x.works(0), 7);
        due("the last place there is", Given.law(x, "1" + "+0".repeat(59) + ")"), -219);
        due("behind the last", Given.law(x, "1" + "+0".repeat(59) + "+"), -220);
        due("the tape is a law", Given.law(x, "3"), 1);
        due("by it", x.works(0), 3);
        due("empty, and the law stays", x.law(), -100);
        due("by it still", x.works(0), 3);
    }

    private static void lawEmptiesTheTape() throws IOException {
        CHECK.about(7, "THE TAPE is empty then.");
        WokenByKettle x = new WokenByKettle();
        Given.law(x, "3");
        due("behind a law", x.count(1), 0);
        Given.law(x, "3+");
        due("behind a FAULT", x.count(1), 0);
        due("nothing is left of it", Given.law(x, "4"), 1);
    }

    private static void worksBad() throws IOException {
        CHECK.about(8, "By how many of twelve a PART works. BAD.");
        WokenByKettle x = Given.parts(0, 701);
        due("it", x.works(0), 7);
        due("none yet", x.works(1), -1);
        due("-1", x.works(-1), -1);
        due("9", x.works(9), -1);
        due("lowest", x.works(LOWEST), -1);
        due("highest", x.works(HIGHEST), -1);
        due("no PARTS", new WokenByKettle().works(0), -1);
    }
}
