/** Promises 9 to 17: mornings in thought. */
public final class ThoughtTest {
    private static final Check CHECK = new Check("ThoughtTest");
    private static final long MIN = Long.MIN_VALUE;

    public static void main(String[] args) {
        promise9Gone();
        promise9Any();
        promise10Stuck();
        promise11Likely();
        promise11Lowest();
        promise12When();
        promise13Mean();
        promise14Worth();
        promise15Begin();
        promise16Double();
        promise16Better();
        promise16Out();
        promise16Edges();
        promise17Fire();
        staleNever();
        CHECK.end();
    }

    private static void due(String call, long got, long want) {
        CHECK.due(call, got, want);
    }

    /** Two at once, 6 and 9 of twelve, 10 and 5 minutes; the end, sure, 7 minutes, waits for both, or any. */
    private static WokenByKettle two(int any) {
        WokenByKettle x = new WokenByKettle();
        x.part(0, 610);
        x.part(0, 905);
        x.part(3, 1207);
        x.mend(2, 1, any);
        return x;
    }

    private static void promise9Gone() {
        WokenByKettle x = two(0);
        due("both", x.gone(7, 2), 17);
        due("bits of none", x.gone(511, 2), 17);
        due("one lacks", x.gone(6, 2), -2);
        due("itself lacks", x.gone(3, 2), -2);
        due("at once", x.gone(1, 0), 10);
        due("not", x.gone(0, 0), -2);
        due("none", x.gone(7, 3), -1);
        due("below", x.gone(7, -1), -1);
        due("set below", x.gone(-1, 0), -1);
        due("set above", x.gone(512, 0), -1);
        due("no parts", new WokenByKettle().gone(0, 0), -1);
        x.part(5, 1260);
        due("last of them", x.gone(15, 3), 77);
        x.part(9, 1260);
        due("later yet", x.gone(31, 4), 137);
    }

    private static void promise9Any() {
        WokenByKettle x = two(1);
        due("the first of both", x.gone(7, 2), 12);
        due("the one that went", x.gone(5, 2), 17);
        due("the other", x.gone(6, 2), 12);
        due("none of them", x.gone(4, 2), -2);
        WokenByKettle y = new WokenByKettle();
        y.part(0, 603);
        y.mend(0, 1, 1);
        due("any of none begins at once", y.gone(1, 0), 3);
        due("and is stuck", y.stuck(0), 1);
    }

    private static void promise10Stuck() {
        WokenByKettle x = two(0);
        due("all work", x.stuck(7), 0);
        due("none works", x.stuck(0), 3);
        due("the end alone lacks", x.stuck(3), 4);
        due("one", x.stuck(2), 1);
        due("bits of none", x.stuck(504), 3);
        due("below", x.stuck(-1), -1);
        due("above", x.stuck(512), -1);
        due("most", x.stuck(511), 0);
        due("no parts", new WokenByKettle().stuck(511), 0);
        WokenByKettle y = two(1);
        due("any came", y.stuck(1), 6);
        due("none came", y.stuck(4), 3);
    }

    private static void promise11Likely() {
        WokenByKettle x = two(0);
        due("above", x.likely(999, 0), 3);
        due("below", x.likely(999, 1), 8);
        due("minute before", x.likely(16, 0), 0);
        due("0 by 1", x.likely(16, 1), 1);
        due("just then", x.likely(17, 1), 8);
        due("goes 0", x.likely(-1, 1), 2);
        due("goes 1", x.likely(-2, 0), 3);
        due("goes 1", x.likely(-2, 1), 4);
        due("goes 2", x.likely(-3, 1), 8);
        due("no such part", x.likely(-4, 0), MIN);
        due("lowest", x.likely(Integer.MIN_VALUE, 0), MIN);
        due("minute 1000", x.likely(1000, 0), MIN);
        due("part 2", x.likely(0, 2), MIN);
        due("part -1", x.likely(0, -1), MIN);
        WokenByKettle y = two(1);
        due("any", y.likely(999, 0), 7);
        due("any", y.likely(999, 1), 8);
        due("by 12", y.likely(12, 0), 3);
        due("by 12", y.likely(16, 1), 4);
        due("by 17", y.likely(17, 0), 7);
        due("no parts", new WokenByKettle().likely(999, 0), 0);
        due("no parts by minute 0", new WokenByKettle().likely(0, 0), 0);
        due("no parts by minute 0", new WokenByKettle().likely(0, 1), 1);
        WokenByKettle z = new WokenByKettle();
        z.part(0, 101);
        due("1 by 12", z.likely(999, 0), 1);
        due("1 by 12", z.likely(999, 1), 12);
        due("minute 0", z.likely(0, 1), 1);
        due("no parts", new WokenByKettle().likely(999, 1), 1);
        due("no parts, none goes", new WokenByKettle().likely(-1, 1), MIN);
    }

    private static void promise11Lowest() {
        WokenByKettle x = new WokenByKettle();
        for (int i = 0; i < 9; i++) {
            x.part((1 << i) - 1, 1160);
        }
        due("11 ^ 9", x.likely(999, 0), 2357947691L);
        due("12 ^ 9", x.likely(999, 1), 5159780352L);
        due("the latest minute", x.when(1), 540);
        due("by 539", x.likely(539, 0), 0);
        due("by 540", x.likely(540, 0), 2357947691L);
        due("mean", x.mean(0), 540);
        due("mean", x.mean(1), 1);
        due("worth", x.worth(-300), 0);
        due("millionths", x.change(2, 1), 498530);
    }

    private static void promise12When() {
        WokenByKettle x = two(1);
        due("soonest", x.when(0), 12);
        due("latest", x.when(1), 17);
        due("what 2", x.when(2), -1);
        due("what -1", x.when(-1), -1);
        x.mend(1, 2, 12);
        due("no odds of 17", x.when(1), 12);
        x.mend(1, 2, 0);
        due("no odds of 12", x.when(0), 17);
        x.mend(2, 2, 0);
        due("never", x.when(0), -2);
        due("never", x.when(1), -2);
        due("no parts", new WokenByKettle().when(1), -2);
        due("bad ahead of not", new WokenByKettle().when(2), -1);
    }

    private static void promise13Mean() {
        WokenByKettle x = two(1);
        due("above", x.mean(0), 89);
        due("below", x.mean(1), 7);
        due("bad", x.mean(2), MIN);
        due("bad", x.mean(-1), MIN);
        WokenByKettle y = new WokenByKettle();
        y.part(0, 107);
        due("7 by 1", y.mean(0), 7);
        due("7 by 1", y.mean(1), 1);
        x.mend(2, 2, 0);
        due("never", x.mean(0), 0);
        due("never", x.mean(1), 1);
        due("no parts", new WokenByKettle().mean(1), 1);
    }

    private static void promise14Worth() {
        WokenByKettle x = two(1);
        due("at 0", x.worth(0), 46125);
        due("at 43", x.worth(43), 83750);
        due("at 48", x.worth(48), 86250);
        due("at 49", x.worth(49), 84500);
        due("early and late", x.worth(45), 84750);
        due("0 at least", x.worth(-300), 0);
        due("far too late", x.worth(300), 0);
        due("both above 0", x.worth(-42), 9375);
        due("one of both above 0", x.worth(-55), 250);
        due("below", x.worth(-301), -2000000000);
        due("above", x.worth(301), -2000000000);
        due("no parts", new WokenByKettle().worth(300), 0);
        x.mend(1, 2, 7);
        due("cut", x.worth(48), 58333 + 18750);
        x.mend(0, 8, 300);
        x.mend(0, 9, 0);
        due("nothing lost", x.worth(-300), 79166);
        x.mend(0, 10, 20);
        x.mend(0, 8, 0);
        due("late by 3 costs 60", x.worth(-9), 23333);
    }

    private static void promise15Begin() {
        WokenByKettle x = two(1);
        due("when", x.begin(0), 48);
        due("that", x.begin(1), 86250);
        due("bad", x.begin(2), -2000000000);
        due("bad", x.begin(-1), -2000000000);
        x.mend(0, 9, 0);
        due("the least of like ones", x.begin(0), -300);
        due("that", x.begin(1), 87500);
        x.mend(0, 8, 0);
        x.mend(0, 9, 20);
        x.mend(0, 10, 0);
        due("late costs nothing", x.begin(0), -12);
        x.mend(1, 2, 12);
        x.mend(0, 10, 20);
        due("sure", x.begin(0), -12);
        due("sure", x.begin(1), 100000);
        x.mend(0, 8, 300);
        due("later", x.begin(0), 288);
        due("no parts", new WokenByKettle().begin(0), -300);
        due("no parts", new WokenByKettle().begin(1), 0);
    }

    private static void promise16Double() {
        WokenByKettle x = two(0);
        due("which", x.change(0, 0), 0);
        due("by", x.change(0, 1), 562500);
        x.mend(0, 2, 11);
        due("which", x.change(0, 0), 1);
        due("by", x.change(0, 1), 859375);
        WokenByKettle z = two(1);
        due("any: which", z.change(0, 0), 1);
        due("any: by", z.change(0, 1), 968750);
        due("any: better", z.change(1, 0), 1);
        due("any: better by", z.change(1, 1), 916666);
        due("any: out", z.change(2, 0), 0);
        due("any: out by", z.change(2, 1), 1000000);
        WokenByKettle y = two(0);
        y.mend(2, 2, 6);
        due("the least of like ones", y.change(0, 0), 0);
        due("by", y.change(0, 1), 281250);
    }

    private static void promise16Better() {
        WokenByKettle x = two(0);
        due("which", x.change(1, 0), 0);
        due("by", x.change(1, 1), 437500);
        x.mend(0, 2, 4);
        x.mend(1, 2, 7);
        due("cut", x.change(1, 1), 243055);
        WokenByKettle y = new WokenByKettle();
        y.part(0, 1201);
        y.part(0, 1201);
        due("12 at most", y.change(1, 1), 1000000);
        due("of like ones the least", y.change(1, 0), 0);
        y.mend(1, 2, 11);
        due("it", y.change(1, 0), 1);
    }

    private static void promise16Out() {
        WokenByKettle x = two(0);
        due("which", x.change(2, 0), 0);
        due("by", x.change(2, 1), 750000);
        x.mend(0, 2, 10);
        due("which", x.change(2, 0), 1);
        due("by", x.change(2, 1), 833333);
    }

    private static void promise16Edges() {
        WokenByKettle x = new WokenByKettle();
        for (int how = 0; how < 3; how++) {
            due("no parts", x.change(how, 0), -2);
            due("no parts", x.change(how, 1), -2);
            due("bad ahead of not", x.change(how, 2), -1);
            due("bad ahead of not", x.change(how, -1), -1);
        }
        due("how", x.change(-1, 0), -1);
        due("how", x.change(3, 0), -1);
        // of odds so small that their millionths are alike, the likeliest tells
        for (int i = 0; i < 9; i++) {
            x.part((1 << i) - 1, i == 4 ? 201 : 101 + (i == 8 ? 200 : 0));
        }
        due("millionths alike", x.change(2, 1), 0);
        due("the likeliest", x.change(2, 0), 0);
        x.mend(0, 2, 2);
        due("the likeliest behind others", x.change(2, 0), 1);
        due("better", x.change(1, 0), 1);
        due("double", x.change(0, 0), 1);
        due("what works is not changed", x.works(0), 2);
    }

    private static void promise17Fire() {
        WokenByKettle x = two(0);
        due("burns and stops alike", x.fire(0), 0);
        due("burns and stops alike", x.fire(1), 1);
        x.mend(0, 12, 1);
        due("1 by 8", x.fire(0), 1);
        due("1 by 8", x.fire(1), 8);
        x.mend(0, 12, 8);
        due("nothing stops it", x.fire(0), 1);
        due("nothing stops it", x.fire(1), 2);
        x.mend(0, 11, 8);
        due("nothing burns", x.fire(0), 0);
        due("nothing burns", x.fire(1), 1);
        x.mend(0, 11, 2);
        x.mend(0, 12, 3);
        due("the end burns", x.fire(0), 3);
        due("bad", x.fire(2), MIN);
        due("bad", x.fire(-1), MIN);
        due("no parts", new WokenByKettle().fire(0), 0);
    }

    /** What was worked out is worked out again, whatever changed. */
    private static void staleNever() {
        WokenByKettle x = two(0);
        due("first", x.likely(999, 1), 8);
        x.mend(0, 2, 12);
        due("behind mend", x.likely(999, 1), 4);
        x.undo();
        due("behind undo", x.likely(999, 1), 8);
        x.redo();
        due("behind redo", x.likely(999, 1), 4);
        x.mend(2, 3, 9);
        due("behind takes", x.when(0), 19);
        due("behind takes", x.gone(7, 2), 19);
        x.mend(2, 1, 1);
        due("behind any", x.gone(7, 2), 14);
        due("behind any", x.when(0), 14);
        x.mend(2, 0, 1);
        due("behind ahead", x.gone(7, 2), 19);
        due("behind ahead", x.stuck(1), 6);
        x.undo();
        x.undo();
        due("behind both undone", x.gone(5, 2), -2);
        due("behind both undone", x.morning(7), 19);
        x.mended(0);
        x.mended(1);
        x.mended(2);
        x.mend(0, 4, 9);
        x.mend(0, 5, 5);
        due("behind age", x.likely(999, 0), 1);
        due("behind age", x.likely(999, 1), 2);
        x.image();
        x.mended(0);
        due("behind mended", x.likely(999, 0), 3);
        x.back();
        due("behind back", x.likely(999, 1), 2);
        x.morning(0);
        x.morning(0);
        due("behind mornings", x.likely(999, 0), 3);
        due("behind mornings", x.likely(999, 1), 8);
        x.mend(0, 7, 1);
        due("behind guests", x.likely(999, 0), 55);
        x.part(1, 1201);
        due("behind part", x.likely(999, 0), 55);
        due("behind part", x.likely(999, 1), 144);
        x.row(0, 1, 3);
        x.put(0, 1, 6);
        x.put(0, 2, 5);
        x.parts(0, 0, 1);
        due("behind parts", x.likely(999, 1), 12);
        PartsTest.enact(x, "3");
        due("behind law", x.likely(999, 1), 4);
    }
}
