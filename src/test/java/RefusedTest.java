import java.io.IOException;
import java.util.ArrayList;
import java.util.Arrays;
import java.util.List;
import java.util.function.Supplier;
import java.util.function.ToLongFunction;

/** A call that is refused changes nothing: all that an object tells behind it is as if it had not been made. */
public final class RefusedTest {
    private static final Check CHECK = new Check("RefusedTest");
    private static final int LOWEST = Integer.MIN_VALUE, HIGHEST = Integer.MAX_VALUE, VOID = -2000000000;
    private static final long MIN = Long.MIN_VALUE;
    private static final List<String> NAMES = new ArrayList<>();
    private static final List<ToLongFunction<WokenByKettle>> CALLS = new ArrayList<>();
    private static final List<Long> WANTED = new ArrayList<>();

    public static void main(String[] args) throws IOException {
        ofParts();
        ofThought();
        ofFailures();
        ofDeeds();
        ofActs();
        ofRows();
        ofShift();
        answersOfAMiddlingOne();
        changesNothing("new", WokenByKettle::new);
        changesNothing("middling", RefusedTest::middling);
        changesNothing("full", RefusedTest::full);
        changesNothing("old", RefusedTest::old);
        mornings();
        refusalsOfTheHost();
        theOneNamedFirst();
        memoryOfItsOwn();
        callsUpToTheLast();
        CHECK.end();
    }

    private static void call(long want, String name, ToLongFunction<WokenByKettle> one) {
        NAMES.add(name);
        CALLS.add(one);
        WANTED.add(want);
    }

    // ---- the calls, and what a middling kitchen answers

    private static void ofParts() {
        call(-1, "part beyond", x -> x.part(16, 1201));
        call(-1, "part of 13", x -> x.part(0, 1301));
        call(-1, "part of no minutes", x -> x.part(0, 1200));
        call(-1, "part below", x -> x.part(LOWEST, LOWEST));
        call(-1, "parts of 10", x -> x.parts(1, 0, 10));
        call(-1, "parts of no shelf", x -> x.parts(6, 0, 1));
        call(-12, "parts of ints", x -> x.parts(2, 0, 1));
        call(-12, "parts of a BODY", x -> x.parts(0, 0, 1));
        call(0, "parts of nothing", x -> x.parts(5, 0, 1));
        call(0, "parts from below 0", x -> x.parts(1, -1, 1));
        call(-1, "mend AHEAD of itself", x -> x.mend(1, 0, 2));
        call(-1, "mend ANY", x -> x.mend(1, 1, 2));
        call(-1, "mend WORKS", x -> x.mend(1, 2, 13));
        call(-1, "mend TAKES", x -> x.mend(1, 3, 0));
        call(-1, "mend WEAR", x -> x.mend(1, 4, 10));
        call(-1, "mend AGE", x -> x.mend(1, 5, 100));
        call(-1, "mend DAMP", x -> x.mend(0, 6, 10));
        call(-1, "mend GUESTS", x -> x.mend(0, 7, 2));
        call(-1, "mend READY", x -> x.mend(0, 8, 301));
        call(-1, "mend EARLY", x -> x.mend(0, 9, 21));
        call(-1, "mend LATE", x -> x.mend(0, 10, -1));
        call(-1, "mend BURNS", x -> x.mend(0, 11, 9));
        call(-1, "mend STOPS", x -> x.mend(0, 12, 9));
        call(-1, "mend of number 1", x -> x.mend(1, 6, 1));
        call(-1, "mend of what 13", x -> x.mend(0, 13, 1));
        call(-1, "mend of no PART", x -> x.mend(9, 2, 1));
        call(-1, "of", x -> x.of(0, 13));
        call(-1, "feed 256", x -> x.feed(256));
        call(-1, "feed -1", x -> x.feed(-1));
        call(-1, "works", x -> x.works(9));
    }

    private static void ofThought() {
        call(-1, "gone, set", x -> x.gone(512, 0));
        call(-1, "gone, PART", x -> x.gone(0, 9));
        call(-2, "gone, not", x -> x.gone(0, 0));
        call(-1, "stuck", x -> x.stuck(-1));
        call(MIN, "likely, minute", x -> x.likely(1000, 0));
        call(MIN, "likely, PART", x -> x.likely(-10, 0));
        call(MIN, "likely, part", x -> x.likely(0, 2));
        call(-1, "when", x -> x.when(2));
        call(MIN, "mean", x -> x.mean(2));
        call(VOID, "worth", x -> x.worth(301));
        call(VOID, "begin", x -> x.begin(2));
        call(-1, "change, how", x -> x.change(3, 0));
        call(-1, "change, what", x -> x.change(0, 2));
        call(MIN, "fire", x -> x.fire(2));
    }

    private static void ofFailures() {
        call(MIN, "failed, sg", x -> x.failed(262144, 0, 0));
        call(MIN, "failed, gone, not SEEN", x -> x.failed(1, 0, 0));
        call(MIN, "failed, PART", x -> x.failed(0, 9, 0));
        call(MIN, "failed, part", x -> x.failed(0, 0, 2));
        call(-1, "look", x -> x.look(1));
        call(-1, "test", x -> x.test(1));
        call(-3, "mending, n", x -> x.mending(4, -1));
        call(-3, "mending, k", x -> x.mending(1, -2));
        call(-2, "mending, not as many", x -> x.mending(1, 1));
        call(-1, "judge, shelf", x -> x.judge(6));
        call(-11, "judge, nothing", x -> x.judge(5));
        call(-12, "judge, a BODY", x -> x.judge(0));
        call(-1, "how, minute", x -> x.how(1000, 0));
        call(-1, "how, what", x -> x.how(0, 2));
        call(-2, "how, not", x -> x.how(0, 1));
        call(-1, "whose, PART", x -> x.whose(1, 9));
        call(-11, "whose, nothing", x -> x.whose(5, 0));
        call(-12, "whose, ints", x -> x.whose(2, 0));
        call(-5, "whose, nine mornings", x -> x.whose(1, 0));
        call(-1, "drawn, n", x -> x.drawn(1, 51, 0));
        call(-1, "drawn, what", x -> x.drawn(1, 1, 2));
    }

    private static void ofDeeds() {
        call(-1, "morning 512", x -> x.morning(512));
        call(-1, "morning -1", x -> x.morning(-1));
        call(-1, "mended 9", x -> x.mended(9));
        call(-1, "mended -1", x -> x.mended(-1));
        call(-1, "led", x -> x.led(6));
        call(-1, "count", x -> x.count(5));
    }

    private static void ofActs() {
        call(-1, "body 8", x -> x.body(8));
        call(-1, "body -1", x -> x.body(-1));
        call(-1, "trace", x -> x.trace(24));
        call(-1, "keep, shelf", x -> x.keep(6, 0));
        call(-1, "keep, BODY", x -> x.keep(0, 50));
        call(-1, "keep, BODY, a ROW there", x -> x.keep(1, -2));
        call(-1, "taken, shelf", x -> x.taken(6, 0));
        call(-1, "taken, KIND", x -> x.taken(0, 8));
        call(-12, "taken, not under", x -> x.taken(0, 7));
        call(-11, "taken, nothing", x -> x.taken(5, 0));
        call(-12, "taken, a ROW", x -> x.taken(1, 0));
    }

    private static void ofRows() {
        call(-1, "row, shelf", x -> x.row(-1, 1, 3));
        call(-1, "row, sort", x -> x.row(1, 5, 3));
        call(-1, "row, n", x -> x.row(1, 1, 61));
        call(-14, "row below 0", x -> x.row(1, 1, -1));
        call(-14, "row below 0, a BODY there", x -> x.row(0, 1, -1));
        call(-14, "row below 0, nothing there", x -> x.row(5, 1, -1));
        call(-1, "put, shelf", x -> x.put(6, 0, 1));
        call(-11, "put, nothing", x -> x.put(5, 0, 1));
        call(-12, "put, a BODY", x -> x.put(0, 0, 1));
        call(-13, "put behind", x -> x.put(1, 60, 1));
        call(-13, "put ahead", x -> x.put(1, -1, 1));
        call(MIN, "element, shelf", x -> x.element(6, 0));
        call(MIN, "element, nothing", x -> x.element(5, 0));
        call(MIN, "element, a BODY", x -> x.element(0, 0));
        call(MIN, "element behind", x -> x.element(1, 60));
    }

    private static void ofShift() {
        call(-1, "shift, shelf", x -> x.shift(6, 0, 1, 0, 1));
        call(-1, "shift, other", x -> x.shift(1, 0, 6, 0, 1));
        call(-11, "shift from nothing", x -> x.shift(5, 0, 1, 0, 1));
        call(-11, "shift to nothing", x -> x.shift(1, 0, 5, 0, 1));
        call(-12, "shift from a BODY", x -> x.shift(0, 0, 1, 0, 1));
        call(-12, "shift to a BODY", x -> x.shift(1, 0, 0, 0, 1));
        call(-12, "shift, unlike sorts", x -> x.shift(1, 0, 2, 0, 1));
        call(-13, "shift from behind", x -> x.shift(1, 9, 3, 0, 9));
        call(-13, "shift to behind", x -> x.shift(1, 0, 3, 2, 9));
        call(-13, "shift, n below 0", x -> x.shift(1, 1, 3, 0, -1));
        call(-13, "shift, highest n", x -> x.shift(1, 1, 3, 0, HIGHEST));
        call(-13, "shift, lowest place", x -> x.shift(1, LOWEST, 1, 0, 1));
    }

    // ---- kitchens

    /** Four PARTS, a LAW, a tape, changes undone, an image, acts, shelves of all sorts, an empty one. */
    private static WokenByKettle middling() {
        WokenByKettle x = Given.parts(0, 1103, 1, 1005, 1, 907, 6, 1204);
        Given.law(x, "w-a/2");
        Given.tape(x, "w+g;0?");
        x.mend(3, 1, 1);
        x.mend(2, 5, 4);
        x.mend(0, 6, 4);
        x.mend(0, 8, 30);
        x.mend(0, 12, 3);
        x.undo();
        x.undo();
        shelved(x);
        x.morning(15);
        x.image();
        x.morning(3);
        x.mended(1);
        return x;
    }

    private static void shelved(WokenByKettle x) {
        x.body(3);
        x.body(5);
        x.act(1, 3, 6);
        x.keep(0, 0);
        Given.shorts(x, 1, 0, 11, 5, 1, 10, 6, 3, 9, 7, 0, 2);
        Given.row(x, 2, 2, 5, 6, 7);
        Given.shorts(x, 3, 21, 22, 23, 24, 25, 26, 27, 28, 29, 30);
        Given.row(x, 4, 4, 1, 0, 1);
    }

    /** Nothing more comes in: nine PARTS, 120 bytes, fifty BODIES, forty changes. */
    private static WokenByKettle full() {
        WokenByKettle x = Given.chain(9, 1102);
        Given.tape(x, "w" + "+0".repeat(59) + "+");
        for (int i = 0; i < 42; i++) {
            x.mend(i % 9, 5, 1 + i / 9);
        }
        shelved(x);
        for (int i = 2; i < 50; i++) {
            x.body(i % 8);
        }
        x.image();
        x.morning(255);
        return x;
    }

    /** Nothing to lay back, to undo or to do again; all is of greatest AGE. */
    private static WokenByKettle old() {
        WokenByKettle x = new WokenByKettle();
        shelved(x);
        x.parts(1, 0, 3);
        for (int i = 0; i < 100; i++) {
            x.morning(i);
        }
        return x;
    }

    // ---- what an object tells

    private static long[] told(WokenByKettle x) {
        List<Long> all = new ArrayList<>();
        for (int i = 0; i < 6; i++) {
            add(all, x.count(i), x.led(i), x.taken(i, 0), x.element(i, 0), x.element(i, 9), x.stuck(i));
        }
        for (int i = 0; i < 10; i++) {
            add(all, x.trace(i), x.element(1, i), x.element(2, i), x.element(3, i));
        }
        numbers(all, x);
        add(all, x.likely(999, 0), x.likely(999, 1), x.begin(0), x.begin(1), x.mean(0), x.fire(0), x.how(-1, 1));
        add(all, x.redo(), x.redo(), x.redo());
        numbers(all, x);
        add(all, x.undo(), x.undo(), x.undo(), x.undo(), x.back(), x.law(), x.count(1), x.led(0), x.led(5));
        numbers(all, x);
        long[] row = new long[all.size()];
        for (int i = 0; i < row.length; i++) {
            row[i] = all.get(i);
        }
        return row;
    }

    private static void numbers(List<Long> all, WokenByKettle x) {
        for (int i = 0; i < 9; i++) {
            add(all, x.works(i), x.of(i, 1), x.of(i, 5));
        }
        add(all, x.of(3, 0), x.of(1, 2), x.of(1, 3), x.of(1, 4));
        for (int what = 6; what < 13; what++) {
            add(all, x.of(0, what));
        }
    }

    private static void add(List<Long> all, long... answers) {
        for (long one : answers) {
            all.add(one);
        }
    }

    // ---- the tests

    private static void answersOfAMiddlingOne() throws IOException {
        CHECK.about(0, "Answers, of several the one named first: BAD (-1): no such number, or it is not as said");
        for (int i = 0; i < CALLS.size(); i++) {
            CHECK.due(NAMES.get(i), CALLS.get(i).applyAsLong(middling()), WANTED.get(i));
        }
    }

    private static boolean isRefusal(long answer) {
        return answer == -1 || answer == -2 || answer == -3 || answer == -5 || (answer <= -11 && answer >= -14)
            || answer == VOID || answer == MIN;
    }

    private static void changesNothing(String name, Supplier<WokenByKettle> made) throws IOException {
        CHECK.about(0, "What is answered so changes nothing");
        List<ToLongFunction<WokenByKettle>> all = new ArrayList<>(CALLS);
        List<String> names = new ArrayList<>(NAMES);
        more(all, names);
        long[] want = told(made.get());
        int refused = 0;
        for (int i = 0; i < all.size(); i++) {
            WokenByKettle x = made.get();
            if (isRefusal(all.get(i).applyAsLong(x))) {
                refused++;
                CHECK.holds("nothing changed in a " + name + " one by " + names.get(i), Arrays.equals(told(x), want));
            }
        }
        CHECK.holds("most are refused by a " + name + " one", refused > 90);
    }

    /** What only some kitchens refuse. */
    private static void more(List<ToLongFunction<WokenByKettle>> all, List<String> names) {
        all.add(x -> x.part(0, 1201));
        names.add("part");
        all.add(x -> x.feed('w'));
        names.add("feed");
        all.add(x -> x.body(0));
        names.add("body");
        all.add(x -> x.back());
        names.add("back");
        all.add(x -> x.undo());
        names.add("undo");
        all.add(x -> x.redo());
        names.add("redo");
        all.add(x -> x.mended(0));
        names.add("mended");
        all.add(x -> x.change(0, 0));
        names.add("change");
        all.add(x -> x.mending(3, -1));
        names.add("mending");
        all.add(x -> x.keep(0, 5));
        names.add("keep");
    }

    private static void mornings() throws IOException {
        CHECK.about(0, "(but a MORNING without THE END: it answers NOT, and goes by all the same)");
        WokenByKettle x = middling();
        int before = x.led(0);
        CHECK.due("nothing works", x.morning(0), -2);
        CHECK.due("it went by", x.led(0), before + 1);
    }

    private static void due(String call, long got, long want) {
        CHECK.due(call, got, want);
    }

    private static void refusalsOfTheHost() throws IOException {
        CHECK.about(0, "-11 nothing is there where something is wanted; -12 it is of another kind; "
            + "-13 a place that is not there; -14 a size below 0.");
        WokenByKettle x = middling();
        due("put, nothing", x.put(5, 0, 1), -11);
        due("shift, nothing", x.shift(5, 0, 1, 0, 0), -11);
        due("taken, nothing", x.taken(5, 0), -11);
        due("judge, nothing", x.judge(5), -11);
        due("whose, nothing", x.whose(5, 0), -11);
        due("put, a BODY", x.put(0, 0, 1), -12);
        due("shift, a BODY", x.shift(0, 0, 1, 0, 0), -12);
        due("taken, a ROW", x.taken(1, 0), -12);
        due("judge, a BODY", x.judge(0), -12);
        due("whose, a BODY", x.whose(0, 0), -12);
        due("parts, a BODY", x.parts(0, 0, 1), -12);
        due("put, no place", x.put(4, 3, 1), -13);
        due("shift, no place", x.shift(4, 3, 4, 0, 1), -13);
        due("row, below 0", x.row(5, 4, -1), -14);
        due("nothing came of it", x.taken(5, 0), -11);
    }

    private static void theOneNamedFirst() throws IOException {
        CHECK.about(0, "Answers, of several the one named first: BAD (-1): no such number, or it is not as said; "
            + "NOT (-2): as told; FULL (-3); STATE (-5): as told; -11 to -14.");
        WokenByKettle x = full();
        WokenByKettle none = new WokenByKettle();
        due("part: BAD, FULL", x.part(512, 1201), -1);
        due("feed: BAD, FULL", x.feed(256), -1);
        due("body: BAD, FULL", x.body(8), -1);
        due("gone: BAD, NOT", x.gone(0, 9), -1);
        due("when: BAD, NOT", none.when(2), -1);
        due("change: BAD, NOT", none.change(0, 2), -1);
        due("look: BAD, NOT", none.look(1), -1);
        due("test: BAD, NOT", none.test(1), -1);
        due("how: BAD, NOT", none.how(0, 2), -1);
        due("mending: BAD, STATE", x.mending(0, -1), -3);
        due("mending: BAD, not as many", x.mending(0, 3), -3);
        due("morning: BAD, NOT", none.morning(512), -1);
        due("parts: BAD, -12", x.parts(0, 0, 10), -1);
        due("parts: -12, below 0", x.parts(0, -1, 1), -12);
        due("judge: -12, not STATE", x.judge(2), -12);
        due("whose: BAD, -11", x.whose(5, 9), -1);
        due("whose: BAD, -12", x.whose(0, 9), -1);
        due("whose: BAD, STATE", x.whose(1, 9), -1);
        due("whose: STATE", x.whose(1, 0), -5);
        due("keep: BAD, whatever is there", x.keep(1, 50), -1);
        due("row: BAD, -14", x.row(1, 5, -1), -1);
        due("put: -11, -13", x.put(5, -1, 1), -11);
        due("put: -12, -13", x.put(0, -1, 1), -12);
        due("shift: BAD, -11", x.shift(6, 0, 5, 0, 1), -1);
        due("shift: -11, -12", x.shift(0, 0, 5, 0, 1), -11);
        due("shift: -12, -13", x.shift(1, -1, 2, 0, 1), -12);
        due("taken: BAD, -11", x.taken(5, 8), -1);
        due("taken: BAD, -12", x.taken(1, 8), -1);
    }

    private static void memoryOfItsOwn() throws IOException {
        CHECK.about(0, "All memory is the class's own.");
        long[] want = told(middling());
        WokenByKettle x = middling();
        WokenByKettle y = full();
        WokenByKettle z = old();
        y.morning(511);
        z.keep(0, -1);
        z.row(1, 0, 3);
        Given.law(z, "0");
        z.act(1, 0, 5);
        CHECK.holds("the others do not matter", Arrays.equals(told(x), want));
        due("nor does it to them", y.led(0), 2);
        due("nor does it to them", z.count(4), 1);
    }

    private static void callsUpToTheLast() throws IOException {
        WokenByKettle x = Given.chain(9, 1260);
        for (int call = 10; call < 512; call++) {
            due("call " + call, x.morning(511), 540);
        }
        due("call 512", x.led(2), 502 * 540);
        WokenByKettle y = new WokenByKettle();
        for (int call = 1; call < 512; call++) {
            due("call " + call, y.mend(0, 8, call % 301), call == 1 ? 60 : (call - 1) % 301);
        }
        due("call 512", y.count(2), 40);
    }
}
