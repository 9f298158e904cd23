import java.util.Random;

/** Random runs of calls: the program answers what the Model of the document answers. */
public final class ModelTest {
    private static final int[] EDGES = {Integer.MIN_VALUE, Integer.MAX_VALUE, -1, -2, -300, 300, 512, 511, 1000, 999,
        -2147483647, 2147483646, 262143, 262144, 0, 1, 13, 61, 60, 9, 10};
    private static final String[] LAWS = {"w", "w-d/3-a*e/10-g", "12", "g?w-2;d>5?w-1;w", "a<3?12;w-a/3", "p*2+1",
        "(w+d)%13", "!g*w", "-(a-w)", "w*(1-g)+3*g", "d*e>20&a>2?w/2;w-1|0;3", "p=2?6;w", "9999*9999*9999", "w/g",
        "0?5", "a%7+e", "w>6|d<3?11;1", "--w", "!!w*8", "((((((w))))))"};
    private static final String SIGNS = "wdaegp0123456789|&<=>+-*/%?;!() x";

    private final Random random;
    private final Check check;
    private WokenByKettle x;
    private Model m;
    private final StringBuilder told = new StringBuilder();

    private ModelTest(long seed, Check check) {
        // seeds side by side draw alike at first
        random = new Random(seed * 0x9E3779B97F4A7C15L ^ seed << 17);
        this.check = check;
    }

    public static void main(String[] args) {
        int runs = args.length > 0 ? Integer.parseInt(args[0]) : 700;
        long first = args.length > 1 ? Long.parseLong(args[1]) : 1;
        Check check = new Check("ModelTest");
        for (long seed = first; seed < first + runs && check.wrong() == 0; seed++) {
            ModelTest test = new ModelTest(seed, check);
            test.run(seed);
        }
        check.end();
    }

    private void run(long seed) {
        x = new WokenByKettle();
        m = new Model();
        told.setLength(0);
        int calls = 1 + random.nextInt(512);
        int most = random.nextInt(4) == 0 ? 10 : random.nextInt(8);
        int begun = random.nextInt(most + 1);
        for (int i = 0; i < calls && check.wrong() == 0; i++) {
            if (i < begun) {
                partCall();
            } else if (i == begun && random.nextInt(3) > 0) {
                i += lawCalls();
            } else {
                anyCall(most);
            }
        }
        if (check.wrong() > 0) {
            System.out.println("seed " + seed + ":" + told);
        }
    }

    private void due(String call, long got, long want) {
        told.append("\n  ").append(call).append(" -> ").append(got);
        check.due(call, got, want);
    }

    /** Mostly low .. high, now and then beyond. */
    private int near(int low, int high) {
        int dice = random.nextInt(24);
        if (dice == 0) {
            return EDGES[random.nextInt(EDGES.length)];
        }
        if (dice == 1) {
            return random.nextBoolean() ? low - 1 : high + 1;
        }
        return low + random.nextInt(high - low + 1);
    }

    private int part() {
        return near(0, Math.max(0, m.count(0) - 1));
    }

    private void partCall() {
        int n = m.count(0);
        int ahead = n == 0 ? near(0, 0) : near(0, (1 << Math.min(9, n)) - 1);
        if (random.nextInt(3) == 0 && n > 0) {
            ahead = 1 << random.nextInt(n);
        }
        int works = random.nextInt(4) == 0 ? near(0, 12) : near(7, 12);
        int takes = random.nextInt(3) == 0 ? near(1, 3) : near(1, 60);
        int wt = random.nextInt(30) == 0 ? EDGES[random.nextInt(EDGES.length)] : works * 100 + takes;
        due("part(" + ahead + ", " + wt + ")", x.part(ahead, wt), m.part(ahead, wt));
    }

    private int lawCalls() {
        String text = LAWS[random.nextInt(LAWS.length)];
        if (random.nextInt(3) == 0) {
            text = text.replace("w", LAWS[random.nextInt(LAWS.length)]);
        }
        if (random.nextInt(3) == 0) {
            StringBuilder changed = new StringBuilder(text);
            changed.setCharAt(random.nextInt(text.length()), SIGNS.charAt(random.nextInt(SIGNS.length())));
            text = changed.toString();
        }
        for (int i = 0; i < text.length(); i++) {
            int letter = text.charAt(i);
            due("feed(" + letter + ")", x.feed(letter), m.feed(letter));
        }
        due("law()", x.law(), m.law());
        return text.length();
    }

    private void anyCall(int most) {
        switch (random.nextInt(6)) {
            case 0: kitchenCall(most); break;
            case 1: case 2: thoughtCall(); break;
            case 3: failedCall(); break;
            case 4: deedCall(); break;
            default: shelfCall();
        }
    }

    private void kitchenCall(int most) {
        int dice = random.nextInt(12);
        if (dice == 0 && m.count(0) < most) {
            partCall();
        } else if (dice == 1) {
            int shelf = near(0, 5), i = near(0, 6), n = near(1, 9);
            if (m.count(0) < most) {
                due("parts(" + shelf + ", " + i + ", " + n + ")", x.parts(shelf, i, n), m.parts(shelf, i, n));
            }
        } else if (dice < 8) {
            int what = near(0, 12);
            int number = what > 5 ? near(0, 0) : part();
            int v = mendValue(number, what);
            due("mend(" + number + ", " + what + ", " + v + ")", x.mend(number, what, v), m.mend(number, what, v));
        } else if (dice < 10) {
            int what = near(0, 12);
            int number = what > 5 ? near(0, 0) : part();
            due("of(" + number + ", " + what + ")", x.of(number, what), m.of(number, what));
        } else if (dice == 10) {
            int letter = random.nextInt(9) == 0 ? near(0, 255) : SIGNS.charAt(random.nextInt(SIGNS.length()));
            due("feed(" + letter + ")", x.feed(letter), m.feed(letter));
        } else if (random.nextInt(4) == 0) {
            due("law()", x.law(), m.law());
        }
    }

    private int mendValue(int number, int what) {
        switch (what) {
            case 0: return near(0, number > 0 && number < 9 ? (1 << number) - 1 : 0);
            case 1: case 7: return near(0, 1);
            case 2: return near(0, 12);
            case 3: return near(1, 60);
            case 4: case 6: return near(0, 9);
            case 5: return random.nextBoolean() ? near(0, 9) : near(0, 99);
            case 8: return near(0, 300);
            case 9: case 10: return near(0, 20);
            default: return near(0, 8);
        }
    }

    private void thoughtCall() {
        int side = near(0, 1);
        switch (random.nextInt(13)) {
            case 0: {
                int set = near(0, 511), part = part();
                due("gone(" + set + ", " + part + ")", x.gone(set, part), m.gone(set, part));
                break;
            }
            case 1: {
                int set = near(0, 511);
                due("stuck(" + set + ")", x.stuck(set), m.stuck(set));
                break;
            }
            case 2: case 3: {
                int minute = random.nextBoolean() ? near(0, 150) : random.nextBoolean() ? near(-9, -1) : near(0, 999);
                due("likely(" + minute + ", " + side + ")", x.likely(minute, side), m.likely(minute, side));
                break;
            }
            case 4: due("when(" + side + ")", x.when(side), m.when(side)); break;
            case 5: due("mean(" + side + ")", x.mean(side), m.mean(side)); break;
            case 6: {
                int b = near(-300, 300);
                due("worth(" + b + ")", x.worth(b), m.worth(b));
                break;
            }
            case 7: due("begin(" + side + ")", x.begin(side), m.begin(side)); break;
            case 8: case 9: {
                int how = near(0, 2);
                due("change(" + how + ", " + side + ")", x.change(how, side), m.change(how, side));
                break;
            }
            case 10: due("fire(" + side + ")", x.fire(side), m.fire(side)); break;
            case 11: {
                int part = part();
                due("works(" + part + ")", x.works(part), m.works(part));
                break;
            }
            default: {
                int seed = random.nextInt(), n = near(1, 50);
                due("drawn(" + seed + ", " + n + ", " + side + ")", x.drawn(seed, n, side), m.drawn(seed, n, side));
            }
        }
    }

    private int evidence() {
        int all = m.count(0) > 0 && random.nextInt(4) > 0 ? 1 << Math.min(9, m.count(0)) : 512;
        int seen = random.nextInt(all);
        int gone = random.nextInt(512) & seen;
        int sg = seen * 512 + gone;
        int dice = random.nextInt(12);
        return dice == 0 ? random.nextInt(262144) : dice == 1 ? EDGES[random.nextInt(EDGES.length)]
            : dice == 2 ? (sg | 1 << random.nextInt(9)) : sg;
    }

    private void failedCall() {
        int side = near(0, 1), sg = evidence(), one = part();
        switch (random.nextInt(10)) {
            case 0: case 1:
                due("failed(" + sg + ", " + one + ", " + side + ")", x.failed(sg, one, side), m.failed(sg, one, side));
                break;
            case 2: due("look(" + sg + ")", x.look(sg), m.look(sg)); break;
            case 3: case 4: due("test(" + sg + ")", x.test(sg), m.test(sg)); break;
            case 5: {
                int n = near(1, 3), k = near(-1, Math.max(0, Math.min(n, 4)));
                due("mending(" + n + ", " + k + ")", x.mending(n, k), m.mending(n, k));
                break;
            }
            case 6: case 7: {
                int shelf = book();
                due("judge(" + shelf + ")", x.judge(shelf), m.judge(shelf));
                due("whose(" + shelf + ", " + one + ")", x.whose(shelf, one), m.whose(shelf, one));
                break;
            }
            default: {
                int minute = random.nextBoolean() ? near(-1, 999) : minuteOfEnd();
                due("how(" + minute + ", " + side + ")", x.how(minute, side), m.how(minute, side));
            }
        }
    }

    private int minuteOfEnd() {
        int minute = m.gone(random.nextInt(512), m.count(0) - 1);
        return minute < 0 ? -1 : minute;
    }

    /** Lays a BOOK on a shelf, most times. */
    private int book() {
        int shelf = near(0, 5);
        if (random.nextInt(5) == 0 || shelf < 0 || shelf > 5) {
            return shelf;
        }
        int n = random.nextInt(7) == 0 ? near(0, 60) : random.nextInt(6);
        due("row(" + shelf + ", 1, " + n + ")", x.row(shelf, 1, n), m.row(shelf, 1, n));
        for (int i = 0; i < Math.min(n, 9); i++) {
            int minute = random.nextInt(9) == 0 ? near(-1, 80) : minuteOfEnd();
            due("put(" + shelf + ", " + i + ", " + minute + ")", x.put(shelf, i, minute), m.put(shelf, i, minute));
        }
        return shelf;
    }

    private void deedCall() {
        switch (random.nextInt(11)) {
            case 0: case 1: case 2: {
                int set = random.nextBoolean() ? near(0, 511) : 511 & ~(1 << random.nextInt(9));
                due("morning(" + set + ")", x.morning(set), m.morning(set));
                break;
            }
            case 3: {
                int one = part();
                due("mended(" + one + ")", x.mended(one), m.mended(one));
                break;
            }
            case 4: case 5: {
                int what = near(0, 5);
                due("led(" + what + ")", x.led(what), m.led(what));
                break;
            }
            case 6:
                if (random.nextBoolean()) {
                    due("image()", x.image(), m.image());
                }
                break;
            case 7:
                if (random.nextBoolean()) {
                    due("back()", x.back(), m.back());
                }
                break;
            case 8: due("undo()", x.undo(), m.undo()); break;
            case 9: due("redo()", x.redo(), m.redo()); break;
            default: {
                int what = near(0, 4);
                due("count(" + what + ")", x.count(what), m.count(what));
            }
        }
    }

    private void shelfCall() {
        int shelf = near(0, 5), i = near(0, 9);
        switch (random.nextInt(12)) {
            case 0: case 1: {
                int kind = near(0, 7);
                due("body(" + kind + ")", x.body(kind), m.body(kind));
                break;
            }
            case 2: case 3: case 4: {
                int body = near(0, Math.max(0, m.count(3) - 1)), act = near(0, 3), v = random.nextInt();
                due("act(" + body + ", " + act + ", " + v + ")", x.act(body, act, v), m.act(body, act, v));
                int at = near(0, 9);
                due("trace(" + at + ")", x.trace(at), m.trace(at));
                break;
            }
            case 5: {
                int body = near(-1, Math.max(0, m.count(3) - 1));
                due("keep(" + shelf + ", " + body + ")", x.keep(shelf, body), m.keep(shelf, body));
                break;
            }
            case 6: {
                int sort = near(0, 4), n = random.nextBoolean() ? near(0, 60) : near(0, 9);
                due("row(" + shelf + ", " + sort + ", " + n + ")", x.row(shelf, sort, n), m.row(shelf, sort, n));
                break;
            }
            case 7: case 8: {
                long v = random.nextBoolean() ? random.nextInt(13) : random.nextLong();
                due("put(" + shelf + ", " + i + ", " + v + ")", x.put(shelf, i, v), m.put(shelf, i, v));
                break;
            }
            case 9:
                due("element(" + shelf + ", " + i + ")", x.element(shelf, i), m.element(shelf, i));
                break;
            case 10: {
                int other = random.nextBoolean() ? shelf : near(0, 5), j = near(0, 9), n = near(0, 9);
                due("shift(" + shelf + ", " + i + ", " + other + ", " + j + ", " + n + ")",
                    x.shift(shelf, i, other, j, n), m.shift(shelf, i, other, j, n));
                break;
            }
            default: {
                int k = near(0, 7);
                due("taken(" + shelf + ", " + k + ")", x.taken(shelf, k), m.taken(shelf, k));
            }
        }
    }
}
