/** Promises 2 to 8: PARTS, their numbers, THE TAPE and THE LAW. */
public final class PartsTest {
    private static final Check CHECK = new Check("PartsTest");

    public static void main(String[] args) {
        promise2Part();
        promise2Full();
        promise3Parts();
        promise3Order();
        promise4Mend();
        promise4Edges();
        promise5Of();
        promise6Feed();
        promise7Faults();
        promise7Law();
        promise8WithoutText();
        promise8Signs();
        promise8Lines();
        promise8Names();
        CHECK.end();
    }

    private static void due(String call, long got, long want) {
        CHECK.due(call, got, want);
    }

    static int enact(WokenByKettle x, String text) {
        for (int i = 0; i < text.length(); i++) {
            x.feed(text.charAt(i));
        }
        return x.law();
    }

    private static void promise2Part() {
        WokenByKettle x = new WokenByKettle();
        due("AHEAD with no parts", x.part(1, 1201), -1);
        due("negative AHEAD", x.part(-1, 1201), -1);
        due("lowest AHEAD", x.part(Integer.MIN_VALUE, 1201), -1);
        due("negative wt", x.part(0, -1), -1);
        due("negative wt with fit rest", x.part(0, -95), -1);
        due("lowest wt", x.part(0, Integer.MIN_VALUE), -1);
        due("highest wt", x.part(0, Integer.MAX_VALUE), -1);
        due("takes 0", x.part(0, 1200), -1);
        due("takes 61", x.part(0, 1161), -1);
        due("works 13", x.part(0, 1301), -1);
        due("none came", x.count(0), 0);
        due("least", x.part(0, 1), 0);
        due("greatest", x.part(1, 1260), 1);
        due("AHEAD beyond", x.part(4, 1201), -1);
        due("both ahead", x.part(3, 507), 2);
        due("works of 0", x.of(0, 2), 0);
        due("takes of 0", x.of(0, 3), 1);
        due("works of 1", x.of(1, 2), 12);
        due("takes of 1", x.of(1, 3), 60);
        due("ahead of 2", x.of(2, 0), 3);
        due("works of 2", x.of(2, 2), 5);
        due("takes of 2", x.of(2, 3), 7);
        due("any at first", x.of(2, 1), 0);
        due("wear at first", x.of(2, 4), 0);
        due("age at first", x.of(2, 5), 0);
    }

    private static void promise2Full() {
        WokenByKettle x = new WokenByKettle();
        for (int i = 0; i < 9; i++) {
            due("part " + i, x.part((1 << i) - 1, 1201), i);
        }
        due("full", x.part(0, 1201), -3);
        due("full with all ahead", x.part(511, 1201), -3);
        due("bad ahead of full", x.part(512, 1201), -1);
        due("bad wt ahead of full", x.part(0, 1300), -1);
        due("nine", x.count(0), 9);
    }

    private static void fill(WokenByKettle x, int shelf, int... values) {
        x.row(shelf, 1, values.length);
        for (int i = 0; i < values.length; i++) {
            x.put(shelf, i, values[i]);
        }
    }

    private static void promise3Parts() {
        WokenByKettle x = new WokenByKettle();
        fill(x, 0, 0, 12, 5, 1, 11, 6, 3, 10, 7, 0, 9);
        due("three and a torn one", x.parts(0, 0, 9), 3);
        due("ahead of 1", x.of(1, 0), 1);
        due("works of 1", x.of(1, 2), 11);
        due("takes of 2", x.of(2, 3), 7);
        due("torn", x.parts(0, 9, 1), 0);
        due("behind the row", x.parts(0, 11, 1), 0);
        due("far behind", x.parts(0, Integer.MAX_VALUE, 9), 0);
        due("below 0", x.parts(0, -1, 1), 0);
        due("lowest", x.parts(0, Integer.MIN_VALUE, 1), 0);
        due("only n", x.parts(0, 0, 2), 2);
        due("five", x.count(0), 5);
        fill(x, 1, 0, 12, 5, 64, 12, 5, 0, 12, 5);
        due("ends where one may not be", x.parts(1, 0, 3), 1);
        fill(x, 1, -1, 12, 5);
        due("negative ahead", x.parts(1, 0, 1), 0);
        fill(x, 1, 0, 13, 5);
        due("works 13", x.parts(1, 0, 1), 0);
        fill(x, 1, 0, 12, 61);
        due("takes 61", x.parts(1, 0, 1), 0);
        fill(x, 1, 0, 1, 1, 0, 2, 2, 0, 3, 3, 0, 4, 4);
        due("until full", x.parts(1, 0, 4), 3);
        due("nine", x.count(0), 9);
        due("last one", x.of(8, 2), 3);
        due("none more", x.parts(1, 0, 4), 0);
    }

    private static void promise3Order() {
        WokenByKettle x = new WokenByKettle();
        due("nothing there", x.parts(5, 0, 1), 0);
        due("shelf below", x.parts(-1, 0, 1), -1);
        due("shelf above", x.parts(6, 0, 1), -1);
        due("n 0", x.parts(0, 0, 0), -1);
        due("n 10", x.parts(0, 0, 10), -1);
        due("n below", x.parts(0, 0, -1), -1);
        for (int sort = 0; sort < 5; sort++) {
            x.row(0, sort, 3);
            x.put(0, 2, 1);
            due("sort " + sort, x.parts(0, 0, 1), sort == 1 ? 1 : -12);
            due("sort " + sort + " below 0", x.parts(0, -1, 1), sort == 1 ? 0 : -12);
        }
        x.keep(0, x.body(0));
        due("a body", x.parts(0, 0, 1), -12);
        due("one came", x.count(0), 1);
    }

    private static void promise4Mend() {
        WokenByKettle x = new WokenByKettle();
        x.part(0, 1105);
        x.part(0, 1005);
        x.part(1, 905);
        int[] was = {1, 0, 9, 5, 0, 0};
        int[] becomes = {3, 1, 0, 60, 9, 99};
        for (int what = 0; what < 6; what++) {
            due("mend " + what, x.mend(2, what, becomes[what]), was[what]);
            due("same " + what, x.mend(2, what, becomes[what]), becomes[what]);
            due("of " + what, x.of(2, what), becomes[what]);
        }
        int[] first = {0, 0, 60, 1, 2, 0, 0};
        int[] most = {9, 1, 300, 20, 20, 8, 8};
        for (int what = 6; what < 13; what++) {
            due("mend " + what, x.mend(0, what, most[what - 6]), first[what - 6]);
            due("of " + what, x.of(0, what), most[what - 6]);
            due("back to 0, " + what, x.mend(0, what, 0), most[what - 6]);
            due("of 0, " + what, x.of(0, what), 0);
        }
        due("other part stays", x.of(1, 3), 5);
    }

    private static void promise4Edges() {
        WokenByKettle x = new WokenByKettle();
        x.part(0, 1105);
        x.part(1, 1005);
        int[] least = {0, 0, 0, 1, 0, 0, 0, 0, 0, 0, 0, 0, 0};
        int[] most = {1, 1, 12, 60, 9, 99, 9, 1, 300, 20, 20, 8, 8};
        for (int what = 0; what < 13; what++) {
            int number = what < 6 ? 1 : 0;
            int now = x.of(number, what);
            due("below " + what, x.mend(number, what, least[what] - 1), -1);
            due("above " + what, x.mend(number, what, most[what] + 1), -1);
            due("lowest " + what, x.mend(number, what, Integer.MIN_VALUE), -1);
            due("highest " + what, x.mend(number, what, Integer.MAX_VALUE), -1);
            due("unchanged " + what, x.of(number, what), now);
            due("least " + what, x.mend(number, what, least[what]), now);
            due("most " + what, x.mend(number, what, most[what]), least[what]);
            due("no such number " + what, x.mend(2, what, least[what]), -1);
            due("number below " + what, x.mend(-1, what, least[what]), -1);
            if (what > 5) {
                due("not of a part " + what, x.mend(1, what, least[what]), -1);
            }
        }
        due("ahead of the first", x.mend(0, 0, 1), -1);
        due("what below", x.mend(0, -1, 0), -1);
        due("what above", x.mend(0, 13, 0), -1);
    }

    private static void promise5Of() {
        WokenByKettle x = new WokenByKettle();
        int[] first = {0, 0, 60, 1, 2, 0, 0};
        for (int what = 0; what < 13; what++) {
            due("no part " + what, x.of(0, what), what < 6 ? -1 : first[what - 6]);
        }
        x.part(0, 1105);
        x.part(1, 304);
        int[] want = {1, 0, 3, 4, 0, 0};
        for (int what = 0; what < 6; what++) {
            due("of(1, " + what + ")", x.of(1, what), want[what]);
            due("of(2, " + what + ")", x.of(2, what), -1);
            due("of(-1, " + what + ")", x.of(-1, what), -1);
        }
        due("of(1, 6)", x.of(1, 6), -1);
        due("of(-1, 6)", x.of(-1, 6), -1);
        due("of(0, -1)", x.of(0, -1), -1);
        due("of(0, 13)", x.of(0, 13), -1);
    }

    private static void promise6Feed() {
        WokenByKettle x = new WokenByKettle();
        due("below", x.feed(-1), -1);
        due("above", x.feed(256), -1);
        due("none", x.count(1), 0);
        due("least", x.feed(0), 1);
        due("most", x.feed(255), 2);
        for (int i = 3; i <= 120; i++) {
            due("byte " + i, x.feed('w'), i);
        }
        due("full", x.feed('w'), -3);
        due("bad ahead of full", x.feed(256), -1);
        due("120", x.count(1), 120);
        due("fault at 0", x.law(), -100);
        due("empty then", x.count(1), 0);
        due("again", x.feed('w'), 1);
    }

    private static void promise7Faults() {
        Object[] texts = {
            "", -100, ";", -100, "w;", -102, "w;;w", -102, "w+", -102, "w+*w", -102, "+w", -100, "x", -100, "ww", -101,
            "w1", -101, "1w", -101, " w", -100, "w ", -101, "1234", 1, "12345", -104, "0000", 1, "00000", -104,
            "1<2<3", -103, "1=2>3", -103, "1<2&2<3", 1, "1<2|2<3", 1, "(1<2)<3", 1, "1<(2<3)", 1, "1<2?3<4", 1,
            "1<2;3<4", 1, "1<2+3", 1, "1<!2", 1, "1?2", 1, "1?2?3", -103, "1?2;3?4;5", 1, "1?;", -102, "1?", -102,
            "?1", -100, "(1?2)", -102, "(1;2)", -102, "(1", -102, "1)", -101, "(1))", -103, "()", -101, "(w)", 1,
            "(w)w", -103, "(w)(", -103, "w(", -101, "!", -101, "-", -101, "!w", 1, "-w", 1, "w!", -101, "w-!-w", 1,
            "w--w", 1, "!!!!!!w", 1, "!!!!!!!w", -106, "((((((w))))))", 1, "(((((((w", -106, "((((((", -106,
            "!-(!-(w))", 1, "!-(!-(!w))", -106, "((((((-w", -106, "((((((w-w))))))", 1, "!!!!!!w-!!!!!!w", 1,
            "((((((w))))))+((((((w))))))", 1, "-1-1-1-1-1-1-1-1-1-1", 1, "!(!(!(w)+(w)))", 1, "(!!!!!w+!!!!!w)", 1,
            "(!!!!!w+!!!!!!w)", -113, "w|w&w<w+w*w", 1, "w=w%w/w>w", -107, "w[", -101, "w\u00e9", -101, "\u00ff", -100,
            "g?1;d>4?2;a", 1, "1??2", -102, "1;?2", -102, "w,w", -101, "W", -100, "0x1", -101, "1.5", -101};
        for (int i = 0; i < texts.length; i += 2) {
            WokenByKettle x = new WokenByKettle();
            x.part(0, 701);
            int want = (Integer) texts[i + 1];
            due("law " + texts[i], enact(x, (String) texts[i]), want);
            due("empty behind " + texts[i], x.count(1), 0);
        }
    }

    private static void promise7Law() {
        WokenByKettle x = new WokenByKettle();
        x.part(0, 701);
        due("law", enact(x, "w-1"), 1);
        due("works", x.works(0), 6);
        due("fault", enact(x, "w-1)"), -103);
        due("the old law stays", x.works(0), 6);
        due("likely by it", x.likely(999, 1), 2);
        due("another law", enact(x, "w-4"), 1);
        due("works", x.works(0), 3);
        due("likely by it", x.likely(999, 1), 4);
        StringBuilder longest = new StringBuilder("1");
        while (longest.length() < 119) {
            longest.append("+1");
        }
        due("119 bytes", enact(x, longest + ""), 1);
        due("120 bytes, ends too early", enact(x, longest + "+"), -220);
        due("many lines", enact(x, "0;".repeat(59) + "9"), 1);
        due("the first counts", x.works(0), 0);
        due("many lines with if", enact(x, "0?1;".repeat(29) + "1?11"), 1);
        due("the last counts", x.works(0), 11);
    }

    private static void promise8WithoutText() {
        WokenByKettle x = new WokenByKettle();
        due("no part", x.works(0), -1);
        x.part(0, 1101);
        due("as told", x.works(0), 11);
        due("damp", x.mend(0, 6, 8), 0);
        due("damp by 3", x.works(0), 9);
        int[] cut = {11, 11, 11, 10, 10, 10, 9, 9, 9, 8};
        for (int damp = 0; damp < 10; damp++) {
            x.mend(0, 6, damp);
            due("damp " + damp, x.works(0), cut[damp]);
        }
        x.mend(0, 6, 8);
        x.mend(0, 4, 7);
        x.mend(0, 5, 4);
        due("age times wear by 10", x.works(0), 7);
        x.mend(0, 7, 1);
        due("guests", x.works(0), 6);
        x.mend(0, 5, 99);
        due("0 at least", x.works(0), 0);
        due("part below", x.works(-1), -1);
        due("part above", x.works(1), -1);
    }

    private static void promise8Signs() {
        Object[] texts = {
            "1+2*3", 7, "7-2-1", 4, "12/5*2", 4, "9%5", 4, "9/0+3", 3, "9%0+3", 3, "-7/2+12", 9, "-7%3+5", 4,
            "7/-2+9", 6, "5|0", 1, "0|0", 0, "5&0", 0, "3&4", 1, "2<3", 1, "3<3", 0, "3>2", 1, "2>2", 0, "2=2", 1,
            "2=3", 0, "!5", 0, "!0", 1, "!!5", 1, "--5", 5, "1|0&0", 1, "(1|0)&0", 0, "2*(1+2)", 6, "1+1<3", 1,
            "1<0+2", 1, "-3<2", 1, "-1*-5", 5, "!0*7", 7, "!(0*7)", 1, "-2+5", 3, "3-10", 0, "9999", 12, "0012", 12,
            "-(9999*9999*9999)", 12, "9999*9999*9999", 0, "5=5=1|4", -1, "2<3+4", 1, "4-!0", 3, "1&2|0", 1,
            "8/2/2", 2, "9-(4-2)", 7, "9-4+2", 7, "2*3%4", 2, "0&9999/0", 0, "!(1<2&3<4)", 0, "-(-4)", 4,
            "((((((8))))))", 8, "-!-!-!0+9", 8, "1+9%5", 5, "9-8/4", 7, "9-2*3", 3, "2*3+1", 7, "2*3-1", 5, "8%3+1", 3,
            "8/4+1", 3, "1?0|5", 1, "1?!!!!!!w", 1, "0?9;1&7", 1};
        for (int i = 0; i < texts.length; i += 2) {
            WokenByKettle x = new WokenByKettle();
            x.part(0, 701);
            int want = (Integer) texts[i + 1];
            int said = enact(x, (String) texts[i]);
            due("law of " + texts[i], said, want < 0 ? -103 : 1);
            due("value of " + texts[i], x.works(0), want < 0 ? 7 : want);
        }
    }

    private static void promise8Lines() {
        Object[] texts = {
            "0?5;1?6;7", 6, "0?5;0?6", 0, "0?5;7;1?3", 7, "5;6", 5, "-1?4;9", 4, "0?5;-1?6", 6, "1?0;9", 0, "!1?3;8", 8};
        for (int i = 0; i < texts.length; i += 2) {
            WokenByKettle x = new WokenByKettle();
            x.part(0, 701);
            due("law of " + texts[i], enact(x, (String) texts[i]), 1);
            due("value of " + texts[i], x.works(0), (Integer) texts[i + 1]);
        }
    }

    private static void promise8Names() {
        WokenByKettle x = new WokenByKettle();
        x.part(0, 101);
        x.part(0, 101);
        x.part(0, 801);
        x.mend(0, 6, 3);
        x.mend(2, 5, 9);
        x.mend(2, 4, 4);
        x.mend(0, 7, 1);
        String[] names = {"w", "d", "a", "e", "g", "p"};
        int[] want = {8, 3, 9, 4, 1, 2};
        int[] wantOfFirst = {1, 3, 0, 0, 1, 0};
        for (int i = 0; i < names.length; i++) {
            due("law " + names[i], enact(x, names[i]), 1);
            due("works(2) by " + names[i], x.works(2), want[i]);
            due("works(0) by " + names[i], x.works(0), wantOfFirst[i]);
        }
        due("law", enact(x, "a"), 1);
        x.morning(0);
        due("a morning older", x.works(2), 10);
        x.mended(2);
        due("mended", x.works(2), 0);
    }
}
