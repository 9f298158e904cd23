import java.util.Arrays;

/**
 * A kitchen of parts that wait for one another until tea is ready: in thought, by odds, by draws and
 * in deed. What each call answers stands in DOC.md; each class inside keeps one chapter of it.
 */
public final class WokenByKettle {
    public static final int BAD = -1, NOT = -2, FULL = -3, STATE = -5, VOID = -2000000000;

    private static final int NOTHING_THERE = -11, OTHER_KIND = -12, NO_PLACE = -13, SIZE_BELOW = -14;
    private static final int GOOD = 0;
    private static final int MOST_PARTS = 9, MOST_SETS = 512, TWELVE = 12, OLDEST = 99;
    private static final int NEVER = -1, NOBODY = -1;
    private static final int MILLION = 1000000;

    private final Kitchen kitchen;
    private final Paths paths;
    private final Thought thought;
    private final Chances chances;
    private final Inquest inquest;
    private final Plan plan;
    private final Deeds deeds;
    private final Changes changes;
    private final Acts acts;
    private final Shelves shelves;

    public WokenByKettle() {
        Kitchen one = new Kitchen();
        Paths ways = new Paths(one);
        Thought odds = new Thought(one, ways);
        kitchen = one;
        paths = ways;
        thought = odds;
        chances = new Chances(one, ways, odds);
        inquest = new Inquest(one, ways, odds);
        plan = new Plan(one, ways, odds);
        deeds = new Deeds(one, ways);
        changes = new Changes(one);
        acts = new Acts();
        shelves = new Shelves();
    }

    // ---- parts

    public int part(int ahead, int wt) {
        return wt < 0 ? BAD : kitchen.add(ahead, wt / 100, wt % 100);
    }

    public int parts(int shelf, int i, int n) {
        if (n < 1 || n > MOST_PARTS) {
            return BAD;
        }
        int refusal = shelves.refusalOfShorts(shelf);
        if (refusal != GOOD) {
            return refusal == NOTHING_THERE ? 0 : refusal;
        }
        int came = 0;
        while (came < n && addFromRow(shelf, i + 3L * came)) {
            came++;
        }
        return came;
    }

    private boolean addFromRow(int shelf, long first) {
        if (first < 0 || first + 3 > shelves.sizeOf(shelf)) {
            return false;
        }
        int at = (int) first;
        int ahead = (int) shelves.cell(shelf, at);
        int works = (int) shelves.cell(shelf, at + 1);
        int takes = (int) shelves.cell(shelf, at + 2);
        return kitchen.add(ahead, works, takes) >= 0;
    }

    public int mend(int number, int what, int v) {
        if (!kitchen.knows(number, what) || !kitchen.fits(number, what, v)) {
            return BAD;
        }
        int was = kitchen.told(number, what);
        if (was != v) {
            changes.tell(number, what, v);
        }
        return was;
    }

    public int of(int number, int what) {
        return kitchen.knows(number, what) ? kitchen.told(number, what) : BAD;
    }

    public int feed(int letter) {
        return letter < 0 || letter > 255 ? BAD : kitchen.rules.append(letter);
    }

    public int law() {
        if (!kitchen.rules.adopt()) {
            return -100 - kitchen.rules.at;
        }
        kitchen.writings++;
        return 1;
    }

    public int works(int part) {
        return kitchen.has(part) ? kitchen.twelfths(part, kitchen.told(part, Kitchen.AGE)) : BAD;
    }

    // ---- mornings in thought

    public int gone(int set, int part) {
        if (!isSet(set) || !kitchen.has(part)) {
            return BAD;
        }
        paths.follow();
        int minute = paths.minuteOf(set, part);
        return minute == NEVER ? NOT : minute;
    }

    public int stuck(int set) {
        if (!isSet(set)) {
            return BAD;
        }
        paths.follow();
        return paths.stuckOf(set);
    }

    public long likely(int minute, int part) {
        int one = -1 - minute;
        if (!isSide(part) || minute > 999 || (minute < 0 && !kitchen.has(one))) {
            return Long.MIN_VALUE;
        }
        thought.think();
        long odds = minute < 0 ? thought.oddsToGo(one) : thought.oddsBy(minute);
        return side(odds, thought.whole, part);
    }

    public int when(int what) {
        if (!isSide(what)) {
            return BAD;
        }
        thought.think();
        int minute = what == 0 ? thought.soonest() : thought.latest();
        return minute == NEVER ? NOT : minute;
    }

    public long mean(int part) {
        if (!isSide(part)) {
            return Long.MIN_VALUE;
        }
        thought.think();
        return side(thought.minutesTogether(), thought.oddsBy(Thought.LAST_MINUTE), part);
    }

    public int worth(int b) {
        if (b < Chances.FIRST_BEGIN || b > Chances.LAST_BEGIN) {
            return VOID;
        }
        thought.think();
        return chances.worthOf(b);
    }

    public int begin(int what) {
        if (!isSide(what)) {
            return VOID;
        }
        thought.think();
        int best = chances.bestBegin();
        return what == 0 ? best : chances.worthOf(best);
    }

    public int change(int how, int what) {
        if (how < 0 || how > 2 || !isSide(what)) {
            return BAD;
        }
        if (kitchen.parts == 0) {
            return NOT;
        }
        thought.think();
        return chances.bestChange(how, what == 0);
    }

    public long fire(int part) {
        if (!isSide(part)) {
            return Long.MIN_VALUE;
        }
        thought.think();
        return side(chances.oddsOfFire(), thought.whole, part);
    }

    // ---- where it failed

    public long failed(int sg, int one, int part) {
        if (!Inquest.isTold(sg) || !kitchen.has(one) || !isSide(part)) {
            return Long.MIN_VALUE;
        }
        thought.think();
        inquest.hear(sg);
        return side(inquest.oddsStuck(one), inquest.oddsHeard(), part);
    }

    public int look(int sg) {
        if (!Inquest.isTold(sg)) {
            return BAD;
        }
        thought.think();
        inquest.hear(sg);
        return inquest.likeliestStuck();
    }

    public int test(int sg) {
        if (!Inquest.isTold(sg)) {
            return BAD;
        }
        thought.think();
        inquest.hear(sg);
        return inquest.bestTest();
    }

    public int mending(int n, int k) {
        // -1 already tells "none" here, so what is bad answers -3
        if (n < 1 || n > Plan.MOST_MORNINGS || k < -1) {
            return -3;
        }
        if (kitchen.parts > Plan.MOST_MENDED) {
            return STATE;
        }
        thought.think();
        int way = plan.bestWay(n);
        if (k == -1) {
            return plan.togetherOf(n, way);
        }
        return k < n ? plan.whom(way, n, k) : -2;
    }

    public int judge(int shelf) {
        int refusal = shelves.refusalOfShorts(shelf);
        if (refusal != GOOD) {
            return refusal;
        }
        thought.think();
        for (int i = 0; i < shelves.sizeOf(shelf); i++) {
            if (thought.oddsIn((int) shelves.cell(shelf, i)) == 0) {
                return i;
            }
        }
        return NOT;
    }

    public int how(int minute, int what) {
        if (minute < -1 || minute > 999 || !isSide(what)) {
            return BAD;
        }
        thought.think();
        return what == 0 ? thought.waysTo(minute) : thought.likeliestWayTo(minute);
    }

    public int whose(int shelf, int one) {
        if (!kitchen.has(one)) {
            return BAD;
        }
        int refusal = shelves.refusalOfShorts(shelf);
        if (refusal != GOOD) {
            return refusal;
        }
        int mornings = shelves.sizeOf(shelf);
        if (mornings > Inquest.LONGEST_BOOK) {
            return STATE;
        }
        thought.think();
        inquest.open(one);
        for (int i = 0; i < mornings; i++) {
            inquest.read((int) shelves.cell(shelf, i));
        }
        return inquest.bestTwelfths();
    }

    public int drawn(int seed, int n, int what) {
        if (n < 1 || n > 50 || !isSide(what)) {
            return BAD;
        }
        thought.think();
        return chances.draw(seed, n, what == 0);
    }

    // ---- in deed

    public int morning(int set) {
        return isSet(set) ? deeds.live(set) : BAD;
    }

    public int mended(int one) {
        return kitchen.has(one) ? deeds.repair(one) : BAD;
    }

    public int led(int what) {
        return deeds.ledgerAt(what);
    }

    public int image() {
        return deeds.keepImage();
    }

    public int back() {
        return deeds.layBack();
    }

    public int undo() {
        return changes.takeBack();
    }

    public int redo() {
        return changes.doAgain();
    }

    // ---- acts, shelves

    public int body(int kind) {
        return acts.add(kind);
    }

    public int act(int body, int act, int x) {
        return acts.perform(body, act, x);
    }

    public int trace(int i) {
        return acts.ranAt(i);
    }

    public int keep(int shelf, int body) {
        boolean known = body == NOBODY || acts.has(body);
        return known ? shelves.holdBody(shelf, body) : BAD;
    }

    public int row(int shelf, int sort, int n) {
        return shelves.holdRow(shelf, sort, n);
    }

    public int put(int shelf, int i, long v) {
        return shelves.write(shelf, i, v);
    }

    public long element(int shelf, int i) {
        // -11 to -13 may be elements, so every refusal is told by Long.MIN_VALUE
        return shelves.refusalOfPlace(shelf, i) == GOOD ? shelves.cell(shelf, i) : Long.MIN_VALUE;
    }

    public int shift(int shelf, int i, int other, int j, int n) {
        return shelves.move(shelf, i, other, j, n);
    }

    public int taken(int shelf, int k) {
        if (!Shelves.isShelf(shelf) || !Acts.isKind(k)) {
            return BAD;
        }
        int refusal = shelves.refusalOfBody(shelf);
        if (refusal != GOOD) {
            return refusal;
        }
        int kind = acts.kindOf(shelves.bodyOn(shelf));
        return Acts.isUnder(kind, k) ? kind : OTHER_KIND;
    }

    public int count(int what) {
        switch (what) {
            case 0: return kitchen.parts;
            case 1: return kitchen.rules.fed;
            case 2: return changes.done;
            case 3: return acts.bodies;
            case 4: return acts.ran;
            default: return BAD;
        }
    }

    private static boolean isSet(int set) {
        return set >= 0 && set < MOST_SETS;
    }

    /** Whether a number is 0 or 1: above or below the line, which or by how much. */
    private static boolean isSide(int number) {
        return number == 0 || number == 1;
    }

    /** What stands above (0) or below (1) the line of a fraction in lowest terms. */
    private static long side(long above, long below, int which) {
        if (above == 0 || below == 0) {
            return which;
        }
        long divisor = commonDivisor(above, below);
        long number = which == 0 ? above : below;
        return divisor == 0 ? number : number / divisor;
    }

    private static long commonDivisor(long one, long other) {
        long a = one;
        long b = other;
        for (int i = 0; i < 1000 && b != 0; i++) {
            long rest = a % b;
            a = b;
            b = rest;
        }
        return a;
    }

    /** A share of a whole in so many parts, cut. */
    private static long cut(long share, long parts, long whole) {
        return whole == 0 ? 0 : share * parts / whole;
    }

    /** THE TAPE, and THE LAW made of it: a code of numbers (0 and above) and signs (below 0), behind its operands. */
    private static final class Law {
        private static final int LONGEST = 120, MOST_OPEN = 6, MOST_DIGITS = 4, ROOM = 128;
        private static final int LEVELS = 5, COMPARING = 2;
        private static final int OR = -1, AND = -2, BELOW = -3, SAME = -4, ABOVE = -5, PLUS = -6, MINUS = -7,
            TIMES = -8, BY = -9, REST = -10, NO = -11, NEGATIVE = -12, IF = -13, GIVE = -14, FIRST_NAME = -20;
        private static final char[] SIGNS = {'|', '&', '<', '=', '>', '+', '-', '*', '/', '%'};
        private static final int[] LEVEL_OF_SIGN = {0, 1, 2, 2, 2, 3, 3, 4, 4, 4};
        private static final char[] NAMES = {'w', 'd', 'a', 'e', 'g', 'p'};

        private final int[] tape = new int[LONGEST];
        private final int[] stack = new int[ROOM];
        private int[] code = new int[ROOM];
        private int[] draft = new int[ROOM];
        private int fed;
        private int codeLength;
        private int draftLength;
        private int at;
        private boolean faulty;

        private int append(int letter) {
            if (fed >= LONGEST) {
                return FULL;
            }
            tape[fed] = letter;
            fed++;
            return fed;
        }

        private boolean isWritten() {
            return codeLength > 0;
        }

        /** Reads THE TAPE and empties it: whether it became THE LAW; if not, at tells its FAULT. */
        private boolean adopt() {
            at = 0;
            draftLength = 0;
            faulty = false;
            readLine();
            for (int i = 0; i < LONGEST && !faulty && at < fed; i++) {
                accept(';');
                readLine();
            }
            fed = 0;
            if (faulty) {
                return false;
            }
            int[] old = code;
            code = draft;
            draft = old;
            codeLength = draftLength;
            return true;
        }

        private void readLine() {
            expression(this, 0, 0);
            if (next() == '?') {
                accept('?');
                emit(IF);
                expression(this, 0, 0);
            }
            emit(GIVE);
        }

        /** E, A, B, S and P are one and the same but for their signs: levels 0 to 4. */
        private static void expression(Law law, int level, int open) {
            if (level >= LEVELS) {
                single(law, open);
                return;
            }
            expression(law, level + 1, open);
            for (int i = 0; i < LONGEST; i++) {
                int sign = law.signOf(level);
                if (sign == 0 || (level == COMPARING && i > 0)) {
                    return;
                }
                law.at++;
                expression(law, level + 1, open);
                law.emit(sign);
            }
        }

        /** O, with so many of ( ! - open ahead of it. */
        private static void single(Law law, int open) {
            int letter = law.next();
            boolean opens = letter == '(' || letter == '!' || letter == '-';
            if (!opens) {
                law.readOperand(letter);
                return;
            }
            if (open >= MOST_OPEN) {
                law.faulty = true;
                return;
            }
            law.at++;
            if (letter == '(') {
                expression(law, 0, open + 1);
                law.accept(')');
            } else {
                single(law, open + 1);
                law.emit(letter == '!' ? NO : NEGATIVE);
            }
        }

        private void readOperand(int letter) {
            for (int i = 0; i < NAMES.length; i++) {
                if (letter == NAMES[i]) {
                    at++;
                    emit(FIRST_NAME - i);
                    return;
                }
            }
            int value = 0;
            int digits = 0;
            while (digits < MOST_DIGITS && next() >= '0' && next() <= '9') {
                value = value * 10 + next() - '0';
                at++;
                digits++;
            }
            if (digits == 0) {
                faulty = true;
            }
            emit(value);
        }

        /** The byte to be read; -1 behind the last one, and behind a FAULT, so that nothing goes on there. */
        private int next() {
            return faulty || at < 0 || at >= fed ? -1 : tape[at];
        }

        private void accept(int letter) {
            if (next() == letter) {
                at++;
            } else {
                faulty = true;
            }
        }

        /** The sign of a level that comes next; 0: none. */
        private int signOf(int level) {
            int letter = next();
            for (int i = 0; i < SIGNS.length; i++) {
                if (letter == SIGNS[i] && LEVEL_OF_SIGN[i] == level) {
                    return OR - i;
                }
            }
            return 0;
        }

        private void emit(int item) {
            if (!faulty && draftLength < draft.length) {
                draft[draftLength] = item;
                draftLength++;
            }
        }

        /** What THE LAW gives for the values of its NAMES. */
        private int give(int[] values) {
            int top = 0;
            boolean counts = true;
            for (int i = 0; i < codeLength; i++) {
                int item = code[i];
                if (item >= 0 || item <= FIRST_NAME) {
                    int name = FIRST_NAME - item;
                    stack[top] = item >= 0 || name >= values.length ? item : values[name];
                    top = Math.min(top + 1, stack.length - 1);
                } else if (item == IF || item == GIVE) {
                    top = Math.max(top - 1, 0);
                    if (item == GIVE && counts) {
                        return stack[top];
                    }
                    counts = item == GIVE || stack[top] != 0;
                } else {
                    top = combine(item, top);
                }
            }
            return 0;
        }

        /** Works a sign out on top of the stack: how many stand there then. */
        private int combine(int sign, int top) {
            boolean alone = sign == NO || sign == NEGATIVE;
            int left = top - (alone ? 1 : 2);
            if (left < 0) {
                return top;
            }
            int one = stack[left];
            int other = stack[top - 1];
            if (alone) {
                stack[left] = sign == NEGATIVE ? -one : one == 0 ? 1 : 0;
            } else {
                stack[left] = valueOf(sign, one, other);
            }
            return left + 1;
        }

        private static int valueOf(int sign, int one, int other) {
            switch (sign) {
                case OR: return one != 0 || other != 0 ? 1 : 0;
                case AND: return one != 0 && other != 0 ? 1 : 0;
                case BELOW: return one < other ? 1 : 0;
                case SAME: return one == other ? 1 : 0;
                case ABOVE: return one > other ? 1 : 0;
                case PLUS: return one + other;
                case MINUS: return one - other;
                case TIMES: return one * other;
                case BY: return other == 0 ? 0 : one / other;
                case REST: return other == 0 ? 0 : one % other;
                default: return 0;
            }
        }
    }

    /** PARTS, all numbers of mend(), and THE LAW over them. */
    private static final class Kitchen {
        private static final int AHEAD = 0, ANY = 1, WORKS = 2, TAKES = 3, WEAR = 4, AGE = 5, DAMP = 6, GUESTS = 7,
            READY = 8, EARLY = 9, LATE = 10, BURNS = 11, STOPS = 12, NUMBERS = 13;
        private static final int[] LEAST = {0, 0, 0, 1, 0, 0, 0, 0, 0, 0, 0, 0, 0};
        private static final int[] GREATEST = {511, 1, 12, 60, 9, 99, 9, 1, 300, 20, 20, 8, 8};

        private final int[][] numbers = new int[NUMBERS][MOST_PARTS];
        private final int[] named = new int[6];
        private final Law rules = new Law();
        private int parts;
        /** Move on with what is written (shapes: with AHEAD, ANY, TAKES alone), so that what is stale shows. */
        private int writings;
        private int shapes;

        private Kitchen() {
            numbers[READY][0] = 60;
            numbers[EARLY][0] = 1;
            numbers[LATE][0] = 2;
        }

        private boolean has(int part) {
            return part >= 0 && part < parts;
        }

        private boolean knows(int number, int what) {
            if (what < 0 || what >= NUMBERS) {
                return false;
            }
            return what < DAMP ? has(number) : number == 0;
        }

        /** Whether v may stand for a number; AHEAD holds PARTS of less number alone. */
        private boolean fits(int number, int what, int v) {
            if (what < 0 || what >= NUMBERS || v < LEAST[what] || v > GREATEST[what]) {
                return false;
            }
            return what != AHEAD || v < 1 << number;
        }

        /** A number of mend(); 0 where there is none. */
        private int told(int number, int what) {
            return isPlace(number, what) ? numbers[what][number] : 0;
        }

        private void write(int number, int what, int v) {
            if (isPlace(number, what)) {
                numbers[what][number] = v;
                writings++;
                shapes += what == AHEAD || what == ANY || what == TAKES ? 1 : 0;
            }
        }

        private static boolean isPlace(int number, int what) {
            return what >= 0 && what < NUMBERS && number >= 0 && number < MOST_PARTS;
        }

        private int add(int ahead, int works, int takes) {
            if (!fits(parts, AHEAD, ahead) || !fits(parts, WORKS, works) || !fits(parts, TAKES, takes)) {
                return BAD;
            }
            if (parts >= MOST_PARTS) {
                return FULL;
            }
            int number = parts;
            parts++;
            write(number, AHEAD, ahead);
            write(number, WORKS, works);
            write(number, TAKES, takes);
            return number;
        }

        /** By how many of twelve a PART works, were it of such an age. */
        private int twelfths(int part, int age) {
            int works = told(part, WORKS);
            int damp = told(0, DAMP);
            int wear = told(part, WEAR);
            int guests = told(0, GUESTS);
            int given = works - damp / 3 - age * wear / 10 - guests;
            if (rules.isWritten()) {
                named[0] = works;
                named[1] = damp;
                named[2] = age;
                named[3] = wear;
                named[4] = guests;
                named[5] = part;
                given = rules.give(named);
            }
            return Math.max(0, Math.min(TWELVE, given));
        }

        private void ageAll() {
            for (int part = 0; part < parts; part++) {
                write(part, AGE, Math.min(OLDEST, told(part, AGE) + 1));
            }
        }
    }

    /** What each set that works comes to: followed once for all calls between two changes of the shape. */
    private static final class Paths {
        private final Kitchen kitchen;
        /** By PART, then by what works of it and of those of less number: the minute in which it has gone. */
        private final int[][] minutes = new int[MOST_PARTS][MOST_SETS];
        private final int[] goers = new int[MOST_SETS];
        private final int[] stuckOnes = new int[MOST_SETS];
        private final int[] ends = new int[MOST_SETS];
        private int sets = 1;
        private int shapesSeen = -1;

        private Paths(Kitchen kitchen) {
            this.kitchen = kitchen;
        }

        private void follow() {
            if (shapesSeen == kitchen.shapes) {
                return;
            }
            shapesSeen = kitchen.shapes;
            sets = 1 << kitchen.parts;
            goers[0] = 0;
            stuckOnes[0] = 0;
            for (int part = 0; part < kitchen.parts && part < MOST_PARTS; part++) {
                followOne(part);
            }
            for (int set = 0; set < sets; set++) {
                ends[set] = minuteOf(set, kitchen.parts - 1);
            }
        }

        /** Lets a PART work, and not, by each set of those of less number: the sets twice over. */
        private void followOne(int part) {
            int takes = kitchen.told(part, Kitchen.TAKES);
            int half = 1 << part;
            for (int set = 0; set < half; set++) {
                int start = startOf(part, set);
                int bit = start == NEVER ? 0 : half;
                minutes[part][set] = NEVER;
                minutes[part][set + half] = start == NEVER ? NEVER : start + takes;
                goers[set + half] = goers[set] | bit;
                stuckOnes[set + half] = stuckOnes[set];
                stuckOnes[set] |= bit;
            }
        }

        /** When a PART may begin, by a set of those of less number. */
        private int startOf(int part, int set) {
            int ahead = kitchen.told(part, Kitchen.AHEAD);
            boolean any = kitchen.told(part, Kitchen.ANY) == 1;
            int came = ahead & goers[set];
            if (ahead == 0) {
                return 0;
            }
            if (came == 0 || (!any && came != ahead)) {
                return NEVER;
            }
            int first = Integer.MAX_VALUE;
            int last = 0;
            for (int other = 0; other < part; other++) {
                if ((came >> other & 1) == 1) {
                    int minute = minuteOf(set, other);
                    first = Math.min(first, minute);
                    last = Math.max(last, minute);
                }
            }
            return any ? first : last;
        }

        /** The minute in which a PART has gone, if a set works; those of greater number do not matter. */
        private int minuteOf(int set, int part) {
            return kitchen.has(part) ? minutes[part][set & (2 << part) - 1] : NEVER;
        }

        private int endOf(int set) {
            return ends[set & sets - 1];
        }

        private int goersOf(int set) {
            return goers[set & sets - 1];
        }

        private int stuckOf(int set) {
            return stuckOnes[set & sets - 1];
        }
    }

    /** The odds of each set, of each minute: weighed once for all calls between two writings. */
    private static final class Thought {
        private static final int LAST_MINUTE = 999, LATEST_END = 540;

        private final Kitchen kitchen;
        private final Paths paths;
        private final int[] twelfths = new int[MOST_PARTS];
        private final long[] odds = new long[MOST_SETS];
        private final long[] oddsOfMinute = new long[LATEST_END + 1];
        /** The minutes with odds above 0, upward: there are at most as many as sets. */
        private final int[] endings = new int[MOST_SETS];
        private int endingCount;
        private long whole = 1;
        private int writingsSeen = -1;

        private Thought(Kitchen kitchen, Paths paths) {
            this.kitchen = kitchen;
            this.paths = paths;
        }

        private void think() {
            if (writingsSeen == kitchen.writings) {
                return;
            }
            writingsSeen = kitchen.writings;
            paths.follow();
            whole = 1;
            for (int part = 0; part < kitchen.parts; part++) {
                twelfths[part] = kitchen.twelfths(part, kitchen.told(part, Kitchen.AGE));
                whole *= TWELVE;
            }
            weigh(odds, twelfths, kitchen.parts, NOBODY);
            Arrays.fill(oddsOfMinute, 0);
            for (int set = 0; set < paths.sets; set++) {
                int minute = paths.ends[set];
                if (minute >= 0 && minute <= LATEST_END) {
                    oddsOfMinute[minute] += odds[set];
                }
            }
            listEndings();
        }

        private void listEndings() {
            endingCount = 0;
            for (int minute = 0; minute <= LATEST_END && endingCount < endings.length; minute++) {
                if (oddsOfMinute[minute] > 0) {
                    endings[endingCount] = minute;
                    endingCount++;
                }
            }
        }

        /** Fills a row with the odds of all sets; a PART left out weighs 1, whether it works or not. */
        private static void weigh(long[] row, int[] shares, int parts, int leftOut) {
            row[0] = 1;
            for (int part = 0; part < parts && part < MOST_PARTS; part++) {
                long works = part == leftOut ? 1 : shares[part];
                long fails = part == leftOut ? 1 : TWELVE - shares[part];
                int half = 1 << part;
                for (int set = 0; set < half; set++) {
                    row[set + half] = row[set] * works;
                    row[set] = row[set] * fails;
                }
            }
        }

        private long oddsToGo(int part) {
            long sum = 0;
            for (int set = 0; set < paths.sets; set++) {
                sum += (paths.goers[set] >> part & 1) * odds[set];
            }
            return sum;
        }

        private long oddsBy(int minute) {
            long sum = 0;
            for (int i = 0; i < endingCount && endings[i] <= minute; i++) {
                sum += oddsOfMinute[endings[i]];
            }
            return sum;
        }

        /** The odds that THE END comes in just a minute (NEVER: that it does not come). */
        private long oddsIn(int minute) {
            if (minute == NEVER) {
                return whole - oddsBy(LAST_MINUTE);
            }
            return minute < 0 || minute > LATEST_END ? 0 : oddsOfMinute[minute];
        }

        private long minutesTogether() {
            long sum = 0;
            for (int i = 0; i < endingCount; i++) {
                sum += endings[i] * oddsOfMinute[endings[i]];
            }
            return sum;
        }

        private int soonest() {
            return endingCount == 0 ? NEVER : endings[0];
        }

        private int latest() {
            return endingCount == 0 ? NEVER : endings[endingCount - 1];
        }

        private int waysTo(int minute) {
            int ways = 0;
            for (int set = 0; set < paths.sets; set++) {
                if (paths.ends[set] == minute && odds[set] > 0) {
                    ways++;
                }
            }
            return ways;
        }

        private int likeliestWayTo(int minute) {
            int best = NOT;
            long most = 0;
            for (int set = 0; set < paths.sets; set++) {
                if (paths.ends[set] == minute && odds[set] > most) {
                    best = set;
                    most = odds[set];
                }
            }
            return best;
        }
    }

    /** What it is worth to begin, what to change, whether it burns, mornings by draws. */
    private static final class Chances {
        private static final int FIRST_BEGIN = -300, LAST_BEGIN = 300, FULL_WORTH = 100;
        private static final int DOUBLE = 0, BETTER = 1;

        private final Kitchen kitchen;
        private final Paths paths;
        private final Thought thought;
        private final long[] others = new long[MOST_SETS];

        private Chances(Kitchen kitchen, Paths paths, Thought thought) {
            this.kitchen = kitchen;
            this.paths = paths;
            this.thought = thought;
        }

        private int worthOf(int b) {
            int ready = kitchen.told(0, Kitchen.READY);
            int ofEarly = kitchen.told(0, Kitchen.EARLY);
            int ofLate = kitchen.told(0, Kitchen.LATE);
            long sum = 0;
            for (int i = 0; i < thought.endingCount; i++) {
                int minute = thought.endings[i];
                int late = minute + b - ready;
                int cost = late > 0 ? late * ofLate : -late * ofEarly;
                sum += thought.oddsOfMinute[minute] * Math.max(0, FULL_WORTH - cost);
            }
            return (int) cut(sum, 1000, thought.whole);
        }

        private int bestBegin() {
            int best = FIRST_BEGIN;
            int most = -1;
            for (int b = FIRST_BEGIN; b <= LAST_BEGIN; b++) {
                int worth = worthOf(b);
                if (worth > most) {
                    best = b;
                    most = worth;
                }
            }
            return best;
        }

        /** The PART that is best changed, or by how many millionths THE END comes then. */
        private int bestChange(int how, boolean which) {
            int best = 0;
            long most = -1;
            for (int part = 0; part < kitchen.parts; part++) {
                long odds = oddsChanged(how, part);
                if (odds > most) {
                    best = part;
                    most = odds;
                }
            }
            // what is there twice is counted in parts of 144
            long whole = how == DOUBLE ? thought.whole * TWELVE : thought.whole;
            return which ? best : (int) cut(most, MILLION, whole);
        }

        private long oddsChanged(int how, int part) {
            int fails = TWELVE - thought.twelfths[part];
            if (how == DOUBLE) {
                return oddsOfEnd(part, TWELVE * TWELVE - fails * fails, fails * fails);
            }
            int left = how == BETTER ? Math.max(0, fails - 1) : 0;
            return oddsOfEnd(part, TWELVE - left, left);
        }

        /** The odds that THE END comes, if one PART works and fails by such shares. */
        private long oddsOfEnd(int part, long works, long fails) {
            Thought.weigh(others, thought.twelfths, kitchen.parts, part);
            long sum = 0;
            for (int set = 0; set < paths.sets; set++) {
                if (paths.ends[set] != NEVER) {
                    sum += others[set] * ((set >> part & 1) == 1 ? works : fails);
                }
            }
            return sum;
        }

        private long oddsOfFire() {
            long sum = 0;
            for (int set = 0; set < paths.sets; set++) {
                if (burns(kitchen, paths.goers[set])) {
                    sum += thought.odds[set];
                }
            }
            return sum;
        }

        /** Whether BURNS is among those that went, STOPS is not. */
        private static boolean burns(Kitchen kitchen, int went) {
            int fire = went >> kitchen.told(0, Kitchen.BURNS) & 1;
            int water = went >> kitchen.told(0, Kitchen.STOPS) & 1;
            return fire == 1 && water == 0;
        }

        private int draw(int seed, int n, boolean howOften) {
            int z = seed;
            int ends = 0;
            int minutes = 0;
            for (int i = 0; i < n; i++) {
                int set = 0;
                for (int part = 0; part < kitchen.parts; part++) {
                    z = z * 1103515245 + 12345;
                    if ((z >>> 8) % 12 < thought.twelfths[part]) {
                        set |= 1 << part;
                    }
                }
                if (paths.ends[set] != NEVER) {
                    ends++;
                    minutes += paths.ends[set];
                }
            }
            return howOften ? ends : minutes;
        }
    }

    /** What is seen to have gone, and BOOKS of mornings. */
    private static final class Inquest {
        private static final int LONGEST_BOOK = 8, MOST_TOLD = MOST_SETS * MOST_SETS;

        private final Kitchen kitchen;
        private final Paths paths;
        private final Thought thought;
        private final long[] others = new long[MOST_SETS];
        private final long[] products = new long[TWELVE + 1];
        private int seen;
        private int told;
        private int suspect;

        private Inquest(Kitchen kitchen, Paths paths, Thought thought) {
            this.kitchen = kitchen;
            this.paths = paths;
            this.thought = thought;
        }

        /** Bits of PARTS that are none count here, too: a gone bit must be SEEN. */
        private static boolean isTold(int sg) {
            return sg >= 0 && sg < MOST_TOLD && (sg % MOST_SETS & ~(sg / MOST_SETS)) == 0;
        }

        private void hear(int sg) {
            seen = sg / MOST_SETS & paths.sets - 1;
            told = sg % MOST_SETS & paths.sets - 1;
        }

        /** The odds of a set, if it works as it is told; else 0. */
        private long oddsSo(int set) {
            return (paths.goers[set] & seen) == told ? thought.odds[set] : 0;
        }

        private long oddsHeard() {
            long sum = 0;
            for (int set = 0; set < paths.sets; set++) {
                sum += oddsSo(set);
            }
            return sum;
        }

        private long oddsStuck(int part) {
            long sum = 0;
            for (int set = 0; set < paths.sets; set++) {
                sum += (paths.stuckOnes[set] >> part & 1) * oddsSo(set);
            }
            return sum;
        }

        private long oddsGone(int part) {
            long sum = 0;
            for (int set = 0; set < paths.sets; set++) {
                sum += (paths.goers[set] >> part & 1) * oddsSo(set);
            }
            return sum;
        }

        private int likeliestStuck() {
            int best = NOT;
            long most = 0;
            for (int part = 0; part < kitchen.parts; part++) {
                long odds = oddsStuck(part);
                if (odds > most) {
                    best = part;
                    most = odds;
                }
            }
            return best;
        }

        private int bestTest() {
            long all = oddsHeard();
            int best = NOT;
            long least = Long.MAX_VALUE;
            for (int part = 0; part < kitchen.parts && all > 0; part++) {
                long gone = oddsGone(part);
                long greater = Math.max(gone, all - gone);
                if ((seen >> part & 1) == 0 && greater < least) {
                    best = part;
                    least = greater;
                }
            }
            return best;
        }

        /** Opens a BOOK to ask it for the twelfths of one PART. */
        private void open(int part) {
            suspect = part;
            Thought.weigh(others, thought.twelfths, kitchen.parts, part);
            Arrays.fill(products, 1);
        }

        /** Lets a morning of the BOOK speak for each number of twelfths. */
        private void read(int minute) {
            long ifWorks = 0;
            long ifFails = 0;
            for (int set = 0; set < paths.sets; set++) {
                if (paths.ends[set] == minute && (set >> suspect & 1) == 1) {
                    ifWorks += others[set];
                } else if (paths.ends[set] == minute) {
                    ifFails += others[set];
                }
            }
            for (int v = 0; v <= TWELVE; v++) {
                products[v] *= cut(v * ifWorks + (TWELVE - v) * ifFails, 100, thought.whole);
            }
        }

        private int bestTwelfths() {
            int best = 0;
            for (int v = 1; v <= TWELVE; v++) {
                if (products[v] > products[best]) {
                    best = v;
                }
            }
            return best;
        }
    }

    /**
     * MEND. A way is a number whose digits, to the base of one more than there are PARTS, tell whom to mend
     * ahead of each morning (0: none), the first morning's foremost: so the first by numbers is the least.
     */
    private static final class Plan {
        private static final int MOST_MORNINGS = 3, MOST_MENDED = 5, MOST_WAYS = 216, FEW_SETS = 32;

        private final Kitchen kitchen;
        private final Paths paths;
        private final Thought thought;
        /** By morning and way up to it: millionths together. */
        private final int[][] together = new int[MOST_MORNINGS][MOST_WAYS];
        /** By PART and mornings: its twelfths since it was mended (0 .. 2), or if it never was (3 .. 5). */
        private final int[][] twelfthsBy = new int[MOST_MENDED][2 * MOST_MORNINGS];
        private final int[] twelfths = new int[MOST_MENDED];
        private final long[] odds = new long[FEW_SETS];
        private int base = 1;

        private Plan(Kitchen kitchen, Paths paths, Thought thought) {
            this.kitchen = kitchen;
            this.paths = paths;
            this.thought = thought;
        }

        private int bestWay(int mornings) {
            base = kitchen.parts + 1;
            foreseeTwelfths();
            int ways = 1;
            for (int k = 0; k < mornings; k++) {
                ways *= base;
                for (int way = 0; way < ways; way++) {
                    int before = k == 0 ? 0 : together[k - 1][withoutLast(way)];
                    together[k][way] = before + millionths(k, way);
                }
            }
            int best = 0;
            for (int way = 1; way < ways; way++) {
                if (together[mornings - 1][way] > together[mornings - 1][best]) {
                    best = way;
                }
            }
            return best;
        }

        private void foreseeTwelfths() {
            for (int part = 0; part < kitchen.parts; part++) {
                int age = kitchen.told(part, Kitchen.AGE);
                for (int k = 0; k < MOST_MORNINGS; k++) {
                    twelfthsBy[part][k] = kitchen.twelfths(part, k);
                    twelfthsBy[part][MOST_MORNINGS + k] = kitchen.twelfths(part, Math.min(OLDEST, age + k));
                }
            }
        }

        /** By how many millionths THE END comes in the k-th morning of a way up to it. */
        private int millionths(int k, int way) {
            for (int part = 0; part < kitchen.parts; part++) {
                twelfths[part] = twelfthsBy[part][MOST_MORNINGS + k];
            }
            for (int j = 0; j <= k; j++) {
                int part = whom(way, k + 1, j);
                if (part != NOBODY) {
                    twelfths[part] = twelfthsBy[part][k - j];
                }
            }
            Thought.weigh(odds, twelfths, kitchen.parts, NOBODY);
            long sum = 0;
            for (int set = 0; set < paths.sets; set++) {
                if (paths.ends[set] != NEVER) {
                    sum += odds[set];
                }
            }
            return (int) cut(sum, MILLION, thought.whole);
        }

        private int togetherOf(int mornings, int way) {
            return together[mornings - 1][way];
        }

        /** Whom a way of so many mornings mends ahead of the k-th. */
        private int whom(int way, int mornings, int k) {
            int rest = way;
            for (int j = mornings - 1; j > k; j--) {
                rest = withoutLast(rest);
            }
            return rest - withoutLast(rest) * base - 1;
        }

        /** A way without its last morning. */
        private int withoutLast(int way) {
            return base > 0 ? way / base : 0;
        }
    }

    /** Mornings in deed, what they LED to, and AN IMAGE. */
    private static final class Deeds {
        private static final int MORNINGS = 0, ENDS = 1, MINUTES = 2, STUCK_ONES = 3, FIRES = 4, MENDS = 5, LEDGER = 6;

        private final Kitchen kitchen;
        private final Paths paths;
        private final int[] ledger = new int[LEDGER];
        private final int[] ledgerKept = new int[LEDGER];
        private final int[] agesKept = new int[MOST_PARTS];
        private int partsKept;
        private boolean kept;

        private Deeds(Kitchen kitchen, Paths paths) {
            this.kitchen = kitchen;
            this.paths = paths;
        }

        private int live(int set) {
            paths.follow();
            int minute = paths.endOf(set);
            ledger[MORNINGS]++;
            ledger[STUCK_ONES] += Integer.bitCount(paths.stuckOf(set));
            if (Chances.burns(kitchen, paths.goersOf(set))) {
                ledger[FIRES]++;
            }
            kitchen.ageAll();
            if (minute == NEVER) {
                return NOT;
            }
            ledger[ENDS]++;
            ledger[MINUTES] += minute;
            return minute;
        }

        private int repair(int part) {
            int was = kitchen.told(part, Kitchen.AGE);
            kitchen.write(part, Kitchen.AGE, 0);
            ledger[MENDS]++;
            return was;
        }

        private int ledgerAt(int what) {
            return what < 0 || what >= LEDGER ? BAD : ledger[what];
        }

        private int keepImage() {
            kept = true;
            partsKept = kitchen.parts;
            for (int part = 0; part < partsKept; part++) {
                agesKept[part] = kitchen.told(part, Kitchen.AGE);
            }
            System.arraycopy(ledger, 0, ledgerKept, 0, LEDGER);
            return ledger[MORNINGS];
        }

        private int layBack() {
            if (!kept) {
                return STATE;
            }
            for (int part = 0; part < partsKept; part++) {
                kitchen.write(part, Kitchen.AGE, agesKept[part]);
            }
            System.arraycopy(ledgerKept, 0, ledger, 0, LEDGER);
            return ledger[MORNINGS];
        }
    }

    /** CHANGES by mend(), oldest first: those done, then those undone that may be done again. */
    private static final class Changes {
        private static final int MOST = 40;

        private final Kitchen kitchen;
        private final int[] numbers = new int[MOST];
        private final int[] whats = new int[MOST];
        private final int[] olds = new int[MOST];
        private final int[] news = new int[MOST];
        private int done;
        private int all;

        private Changes(Kitchen kitchen) {
            this.kitchen = kitchen;
        }

        private void tell(int number, int what, int v) {
            if (done >= MOST) {
                forgetOldest();
            }
            numbers[done] = number;
            whats[done] = what;
            olds[done] = kitchen.told(number, what);
            news[done] = v;
            kitchen.write(number, what, v);
            done++;
            all = done;
        }

        private void forgetOldest() {
            System.arraycopy(numbers, 1, numbers, 0, MOST - 1);
            System.arraycopy(whats, 1, whats, 0, MOST - 1);
            System.arraycopy(olds, 1, olds, 0, MOST - 1);
            System.arraycopy(news, 1, news, 0, MOST - 1);
            done = MOST - 1;
        }

        private int takeBack() {
            if (done <= 0) {
                return STATE;
            }
            done--;
            kitchen.write(numbers[done], whats[done], olds[done]);
            return done;
        }

        private int doAgain() {
            if (done >= all) {
                return STATE;
            }
            kitchen.write(numbers[done], whats[done], news[done]);
            done++;
            return all - done;
        }
    }

    /** BODIES of KINDS and their ACTS. */
    private static final class Acts {
        private static final int MOST = 50, KINDS = 8, ACTS = 4, KEPT = 24, DEEPEST = 40;
        private static final int STARTS = 0, TAKES = 1, FAILS = 2;
        private static final int[] ABOVE = {-1, 0, 0, 2, 1, 3, 0, 6};
        /** By act, then by KIND: the number of the body that the KIND itself has; 0: none. */
        private static final int[] OWN_BODY = {
            1, 20, 0, 0, 0, 0, 70, 81,
            10, 0, 30, 41, 0, 0, 0, 80,
            11, 0, 0, 40, 0, 60, 0, 0,
            2, 0, 0, 0, 50, 61, 0, 0};

        private final int[] kinds = new int[MOST];
        private final int[] trace = new int[KEPT];
        private int bodies;
        private int ran;
        private int number;
        private int kind;

        private static boolean isKind(int kind) {
            return kind >= 0 && kind < KINDS;
        }

        private static boolean isUnder(int kind, int top) {
            int up = kind;
            for (int i = 0; i < KINDS && isKind(up) && up != top; i++) {
                up = ABOVE[up];
            }
            return up == top;
        }

        private int add(int ofKind) {
            if (!isKind(ofKind)) {
                return BAD;
            }
            if (bodies >= MOST) {
                return FULL;
            }
            kinds[bodies] = ofKind;
            bodies++;
            return bodies - 1;
        }

        private boolean has(int body) {
            return body >= 0 && body < bodies;
        }

        private int kindOf(int body) {
            return has(body) ? kinds[body] : NOBODY;
        }

        private int perform(int body, int act, int x) {
            ran = 0;
            if (!has(body) || act < 0 || act >= ACTS) {
                return 0;
            }
            number = body;
            kind = kinds[body];
            return run(this, act, kind, x, 0);
        }

        private int ranAt(int i) {
            return i < 0 || i >= ran || i >= KEPT ? BAD : trace[i];
        }

        private void began(int body) {
            if (ran < KEPT) {
                trace[ran] = body;
            }
            ran++;
        }

        /** The KIND, from one upward, that has a body of its own for an act. */
        private static int ownerOf(int act, int from) {
            int up = from;
            for (int i = 0; i < KINDS && isKind(up) && OWN_BODY[act * KINDS + up] == 0; i++) {
                up = ABOVE[up];
            }
            return up;
        }

        /** Runs the body of an act that the KINDS from one upward have. */
        private static int run(Acts acts, int act, int from, int x, int depth) {
            int owner = ownerOf(act, from);
            if (!isKind(owner) || depth >= DEEPEST) {
                return 0;
            }
            int up = ABOVE[owner];
            int own = acts.kind;
            int down = depth + 1;
            int body = OWN_BODY[act * KINDS + owner];
            acts.began(body);
            switch (body) {
                case 1: return x + acts.number;
                case 2: return run(acts, TAKES, own, x, down) - run(acts, FAILS, own, 1, down);
                case 10: return run(acts, STARTS, own, x, down) * 2;
                case 11: return x ^ acts.number;
                case 20: return run(acts, act, up, x, down) + 3;
                case 30: return -run(acts, act, up, x, down);
                case 40: return run(acts, act, up, x, down) * 3;
                case 41: return run(acts, act, up, x + 1, down);
                case 50: return run(acts, act, up, x, down) ^ 5;
                case 60: return run(acts, act, up, x, down) - run(acts, STARTS, own, 2, down);
                case 61: return run(acts, act, up, x, down) + 1;
                case 70: return run(acts, act, up, x, down) * 2;
                case 80: return run(acts, act, up, x, down) + run(acts, FAILS, own, 2, down);
                case 81: return run(acts, act, up, x, down) - 1;
                default: return 0;
            }
        }
    }

    /** SHELVES: what each holds, and the elements of its ROW. */
    private static final class Shelves {
        private static final int MANY = 6, LONGEST = 60;
        private static final int NOTHING = 0, BODY = 1, ROW = 2;
        private static final int BYTES = 0, SHORTS = 1, INTS = 2, LONGS = 3, BOOLEANS = 4;

        private final int[] holds = new int[MANY];
        private final int[] bodies = new int[MANY];
        private final int[] sorts = new int[MANY];
        private final int[] sizes = new int[MANY];
        private final long[][] cells = new long[MANY][LONGEST];

        private static boolean isShelf(int shelf) {
            return shelf >= 0 && shelf < MANY;
        }

        private int refusalOf(int shelf, int wanted) {
            if (!isShelf(shelf)) {
                return BAD;
            }
            if (holds[shelf] == NOTHING) {
                return NOTHING_THERE;
            }
            return holds[shelf] == wanted ? GOOD : OTHER_KIND;
        }

        private int refusalOfBody(int shelf) {
            return refusalOf(shelf, BODY);
        }

        private int refusalOfShorts(int shelf) {
            int refusal = refusalOf(shelf, ROW);
            return refusal == GOOD && sorts[shelf] != SHORTS ? OTHER_KIND : refusal;
        }

        private int refusalOfPlace(int shelf, int i) {
            int refusal = refusalOf(shelf, ROW);
            return refusal == GOOD && !reaches(shelf, i, 1) ? NO_PLACE : refusal;
        }

        /** Whether a ROW has n places from one on. */
        private boolean reaches(int shelf, int from, int n) {
            return from >= 0 && n >= 0 && from <= sizes[shelf] - n;
        }

        private int sizeOf(int shelf) {
            return refusalOf(shelf, ROW) == GOOD ? sizes[shelf] : 0;
        }

        /** An element; 0 where there is none. */
        private long cell(int shelf, int i) {
            return refusalOfPlace(shelf, i) == GOOD ? cells[shelf][i] : 0;
        }

        private int bodyOn(int shelf) {
            return refusalOfBody(shelf) == GOOD ? bodies[shelf] : NOBODY;
        }

        private int holdBody(int shelf, int body) {
            if (!isShelf(shelf)) {
                return BAD;
            }
            holds[shelf] = body == NOBODY ? NOTHING : BODY;
            bodies[shelf] = body;
            return 1;
        }

        private int holdRow(int shelf, int sort, int n) {
            if (!isShelf(shelf) || sort < BYTES || sort > BOOLEANS || n > LONGEST) {
                return BAD;
            }
            if (n < 0) {
                return SIZE_BELOW;
            }
            holds[shelf] = ROW;
            sorts[shelf] = sort;
            sizes[shelf] = n;
            Arrays.fill(cells[shelf], 0);
            return 1;
        }

        private int write(int shelf, int i, long v) {
            int refusal = refusalOfPlace(shelf, i);
            if (refusal == GOOD) {
                cells[shelf][i] = lowestBits(sorts[shelf], v);
                return 1;
            }
            return refusal;
        }

        private static long lowestBits(int sort, long v) {
            switch (sort) {
                case BYTES: return (byte) v;
                case SHORTS: return (short) v;
                case INTS: return (int) v;
                case BOOLEANS: return v != 0 ? 1 : 0;
                case LONGS:
                default: return v;
            }
        }

        private int move(int shelf, int i, int other, int j, int n) {
            int one = refusalOf(shelf, ROW);
            int two = refusalOf(other, ROW);
            if (one == BAD || two == BAD) {
                return BAD;
            }
            if (one == NOTHING_THERE || two == NOTHING_THERE) {
                return NOTHING_THERE;
            }
            if (one != GOOD || two != GOOD || sorts[shelf] != sorts[other]) {
                return OTHER_KIND;
            }
            if (!reaches(shelf, i, n) || !reaches(other, j, n)) {
                return NO_PLACE;
            }
            System.arraycopy(cells[shelf], i, cells[other], j, n);
            return n;
        }
    }
}
