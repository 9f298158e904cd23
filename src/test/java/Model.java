import java.math.BigInteger;
import java.util.ArrayDeque;
import java.util.ArrayList;
import java.util.Arrays;
import java.util.HashMap;
import java.util.List;
import java.util.Map;
import java.util.function.IntPredicate;

/**
 * The document once more, slow and plain, by other means than the program: big numbers, every set and every
 * way tried, texts split from outside, real classes for the KINDS, real arrays on the SHELVES.
 */
final class Model {
    static final long MIN = Long.MIN_VALUE;

    static final class Part {
        int ahead, any, works, takes, wear, age;
    }

    final List<Part> ps = new ArrayList<>();
    int damp, guests, ready = 60, early = 1, late = 2, burns, stops;
    String rules;
    final StringBuilder tape = new StringBuilder();
    final long[] ledger = new long[6];
    long[] ledgerImage;
    int[] agesImage;
    final List<int[]> doneChanges = new ArrayList<>();
    final List<int[]> undoneChanges = new ArrayList<>();
    final List<Integer> ran = new ArrayList<>();
    final List<Pot> pots = new ArrayList<>();
    final Object[] shelves = new Object[6];

    // ---- the numbers of mend

    private boolean known(int number, int what) {
        if (what < 0 || what > 12) return false;
        return what <= 5 ? number >= 0 && number < ps.size() : number == 0;
    }

    private int get(int number, int what) {
        Part p = what <= 5 ? ps.get(number) : null;
        switch (what) {
            case 0: return p.ahead;
            case 1: return p.any;
            case 2: return p.works;
            case 3: return p.takes;
            case 4: return p.wear;
            case 5: return p.age;
            case 6: return damp;
            case 7: return guests;
            case 8: return ready;
            case 9: return early;
            case 10: return late;
            case 11: return burns;
            default: return stops;
        }
    }

    private void set(int number, int what, int v) {
        Part p = what <= 5 ? ps.get(number) : null;
        goneKept.clear();
        switch (what) {
            case 0: p.ahead = v; break;
            case 1: p.any = v; break;
            case 2: p.works = v; break;
            case 3: p.takes = v; break;
            case 4: p.wear = v; break;
            case 5: p.age = v; break;
            case 6: damp = v; break;
            case 7: guests = v; break;
            case 8: ready = v; break;
            case 9: early = v; break;
            case 10: late = v; break;
            case 11: burns = v; break;
            default: stops = v;
        }
    }

    private boolean may(int number, int what, int v) {
        switch (what) {
            case 0: return v >= 0 && v <= (1 << number) - 1;
            case 1: case 7: return v == 0 || v == 1;
            case 2: return v >= 0 && v <= 12;
            case 3: return v >= 1 && v <= 60;
            case 4: case 6: return v >= 0 && v <= 9;
            case 5: return v >= 0 && v <= 99;
            case 8: return v >= 0 && v <= 300;
            case 9: case 10: return v >= 0 && v <= 20;
            default: return v >= 0 && v <= 8;
        }
    }

    int part(int ahead, int wt) {
        if (wt < 0) return -1;
        return came(ahead, wt / 100, wt - wt / 100 * 100);
    }

    private int came(int ahead, int works, int takes) {
        if (!may(ps.size(), 0, ahead) || !may(0, 2, works) || !may(0, 3, takes)) return -1;
        if (ps.size() == 9) return -3;
        Part p = new Part();
        p.ahead = ahead;
        p.works = works;
        p.takes = takes;
        ps.add(p);
        goneKept.clear();
        return ps.size() - 1;
    }

    int parts(int shelf, int i, int n) {
        if (shelf < 0 || shelf > 5 || n < 1 || n > 9) return -1;
        Object held = shelves[shelf];
        if (held == null) return 0;
        if (!(held instanceof short[])) return -12;
        short[] row = (short[]) held;
        int k = 0;
        try {
            while (k < n) {
                int at = Math.addExact(i, 3 * k);
                if (came(row[at], row[at + 1], row[at + 2]) < 0) break;
                k++;
            }
        } catch (ArrayIndexOutOfBoundsException | ArithmeticException e) {
            return k;
        }
        return k;
    }

    int mend(int number, int what, int v) {
        if (!known(number, what) || !may(number, what, v)) return -1;
        int was = get(number, what);
        if (was != v) {
            doneChanges.add(new int[] {number, what, was, v});
            undoneChanges.clear();
            if (doneChanges.size() > 40) doneChanges.remove(0);
            set(number, what, v);
        }
        return was;
    }

    int of(int number, int what) {
        return known(number, what) ? get(number, what) : -1;
    }

    int undo() {
        if (doneChanges.isEmpty()) return -5;
        int[] c = doneChanges.remove(doneChanges.size() - 1);
        undoneChanges.add(c);
        set(c[0], c[1], c[2]);
        return doneChanges.size();
    }

    int redo() {
        if (undoneChanges.isEmpty()) return -5;
        int[] c = undoneChanges.remove(undoneChanges.size() - 1);
        doneChanges.add(c);
        set(c[0], c[1], c[3]);
        return undoneChanges.size();
    }

    // ---- the law

    int feed(int letter) {
        if (letter < 0 || letter > 255) return -1;
        if (tape.length() == 120) return -3;
        tape.append((char) letter);
        return tape.length();
    }

    int law() {
        String text = tape.toString();
        tape.setLength(0);
        int fault = fault(text);
        if (fault >= 0) return -100 - fault;
        rules = text;
        return 1;
    }

    /** One byte after the other: what stands open (a ( ! or -), and whether a comparison was met beside it. */
    static int fault(String text) {
        ArrayDeque<Character> open = new ArrayDeque<>();
        ArrayDeque<Boolean> compared = new ArrayDeque<>();
        compared.push(false);
        boolean operand = false, asked = false;
        int digits = 0;
        for (int i = 0; i < text.length(); i++) {
            char c = text.charAt(i);
            if (!operand) {
                if (c == '(' || c == '!' || c == '-') {
                    if (open.size() == 6) return i;
                    open.push(c);
                    if (c == '(') compared.push(false);
                    continue;
                }
                if ("wdaegp".indexOf(c) >= 0) digits = 0;
                else if (c >= '0' && c <= '9') digits = 1;
                else return i;
                operand = true;
            } else if (c >= '0' && c <= '9' && digits > 0 && digits < 4) {
                digits++;
                continue;
            } else {
                digits = 0;
                if (c == ')') {
                    if (open.isEmpty()) return i;
                    open.pop();
                    compared.pop();
                } else {
                    if ("|&<=>+-*/%?;".indexOf(c) < 0) return i;
                    operand = false;
                    if ("<=>".indexOf(c) >= 0) {
                        if (compared.pop()) return i;
                        compared.push(true);
                    } else if (c == '|' || c == '&') {
                        compared.pop();
                        compared.push(false);
                    } else if (c == '?' || c == ';') {
                        if (!open.isEmpty() || (c == '?' && asked)) return i;
                        asked = c == '?';
                        compared.pop();
                        compared.push(false);
                    }
                }
            }
            // what stood ahead of a whole O is closed with it
            while (operand && !open.isEmpty() && open.peek() != '(') open.pop();
        }
        return operand && open.isEmpty() ? -1 : text.length();
    }

    private int valueOf(String text, int[] values) {
        for (String line : text.split(";", -1)) {
            int mark = line.indexOf('?');
            if (mark < 0) return eval(line, values);
            if (eval(line.substring(0, mark), values) != 0) return eval(line.substring(mark + 1), values);
        }
        return 0;
    }

    /** Splits at the last sign of the loosest kind that stands outside of ( ). */
    private static int eval(String s, int[] v) {
        for (String signs : new String[] {"|", "&", "<=>", "+-", "*/%"}) {
            int depth = 0;
            for (int i = s.length() - 1; i > 0; i--) {
                char c = s.charAt(i);
                if (c == ')') depth++;
                if (c == '(') depth--;
                if (depth == 0 && signs.indexOf(c) >= 0 && isBetween(s, i)) {
                    return both(c, eval(s.substring(0, i), v), eval(s.substring(i + 1), v));
                }
            }
        }
        char c = s.charAt(0);
        if (c == '!') return eval(s.substring(1), v) == 0 ? 1 : 0;
        if (c == '-') return -eval(s.substring(1), v);
        if (c == '(') return eval(s.substring(1, s.length() - 1), v);
        int name = "wdaegp".indexOf(c);
        return name >= 0 ? v[name] : Integer.parseInt(s);
    }

    private static boolean isBetween(String s, int i) {
        return "|&<=>+-*/%!(".indexOf(s.charAt(i - 1)) < 0;
    }

    private static int both(char c, int a, int b) {
        switch (c) {
            case '|': return a != 0 || b != 0 ? 1 : 0;
            case '&': return a != 0 && b != 0 ? 1 : 0;
            case '<': return a < b ? 1 : 0;
            case '=': return a == b ? 1 : 0;
            case '>': return a > b ? 1 : 0;
            case '+': return a + b;
            case '-': return a - b;
            case '*': return a * b;
            case '/': return b == 0 ? 0 : (int) ((long) a / b);
            default: return b == 0 ? 0 : (int) ((long) a % b);
        }
    }

    private int twelfths(int i, int age) {
        Part p = ps.get(i);
        int t;
        if (rules == null) t = p.works - damp / 3 - age * p.wear / 10 - guests;
        else t = valueOf(rules, new int[] {p.works, damp, age, p.wear, guests, i});
        return t < 0 ? 0 : t > 12 ? 12 : t;
    }

    int works(int part) {
        return part < 0 || part >= ps.size() ? -1 : twelfths(part, ps.get(part).age);
    }

    // ---- mornings in thought

    private Integer startAt(int part, int set) {
        Part p = ps.get(part);
        Integer when = null;
        for (int k = 0; k < part; k++) {
            if ((p.ahead & 1 << k) == 0) continue;
            Integer g = goneAt(k, set);
            if (g == null) {
                if (p.any == 0) return null;
            } else if (when == null) {
                when = g;
            } else {
                when = p.any == 1 ? Math.min(when, g) : Math.max(when, g);
            }
        }
        return p.ahead == 0 ? Integer.valueOf(0) : when;
    }

    /** Kept by set and part until a number or a PART comes; -1: not gone. */
    private final Map<Integer, Integer> goneKept = new HashMap<>();

    private Integer goneAt(int part, int set) {
        Integer kept = goneKept.get(set * 16 + part);
        if (kept == null) {
            Integer start = startAt(part, set);
            kept = start == null || (set & 1 << part) == 0 ? -1 : start + ps.get(part).takes;
            goneKept.put(set * 16 + part, kept);
        }
        return kept < 0 ? null : kept;
    }

    private Integer endAt(int set) {
        return ps.isEmpty() ? null : goneAt(ps.size() - 1, set);
    }

    private boolean went(int part, int set) {
        return part >= 0 && part < ps.size() && goneAt(part, set) != null;
    }

    private boolean held(int part, int set) {
        return startAt(part, set) != null && (set & 1 << part) == 0;
    }

    int gone(int set, int part) {
        if (set < 0 || set > 511 || part < 0 || part >= ps.size()) return -1;
        Integer g = goneAt(part, set);
        return g == null ? -2 : g;
    }

    int stuck(int set) {
        if (set < 0 || set > 511) return -1;
        int bits = 0;
        for (int k = 0; k < ps.size(); k++) if (held(k, set)) bits |= 1 << k;
        return bits;
    }

    private int[] shares() {
        int[] t = new int[ps.size()];
        for (int k = 0; k < t.length; k++) t[k] = works(k);
        return t;
    }

    private static BigInteger big(long n) {
        return BigInteger.valueOf(n);
    }

    private static BigInteger product(int[] t, int set) {
        long odds = 1;
        for (int k = 0; k < t.length; k++) odds *= (set & 1 << k) != 0 ? t[k] : 12 - t[k];
        return big(odds);
    }

    /** The odds of all sets of which something holds. */
    private BigInteger odds(int[] t, IntPredicate holds) {
        BigInteger sum = BigInteger.ZERO;
        for (int set = 0; set < 1 << ps.size(); set++) {
            BigInteger one = product(t, set);
            if (one.signum() > 0 && holds.test(set)) sum = sum.add(one);
        }
        return sum;
    }

    private BigInteger whole() {
        return big(12).pow(ps.size());
    }

    private static long line(BigInteger above, BigInteger below, int side) {
        if (above.signum() == 0 || below.signum() == 0) return side;
        BigInteger d = above.gcd(below);
        return (side == 0 ? above : below).divide(d).longValueExact();
    }

    private static boolean bit(int v) {
        return v == 0 || v == 1;
    }

    long likely(int minute, int side) {
        if (!bit(side) || minute > 999 || minute < -ps.size()) return MIN;
        if (minute < 0) return line(odds(shares(), s -> went(-1 - minute, s)), whole(), side);
        return line(odds(shares(), s -> endAt(s) != null && endAt(s) <= minute), whole(), side);
    }

    int when(int what) {
        if (!bit(what)) return -1;
        int[] t = shares();
        int best = -2;
        for (int set = 0; set < 1 << ps.size(); set++) {
            Integer e = endAt(set);
            if (e == null || product(t, set).signum() == 0) continue;
            if (best == -2 || (what == 0 ? e < best : e > best)) best = e;
        }
        return best;
    }

    long mean(int side) {
        if (!bit(side)) return MIN;
        int[] t = shares();
        BigInteger minutes = BigInteger.ZERO;
        for (int set = 0; set < 1 << ps.size(); set++) {
            Integer e = endAt(set);
            if (e != null) minutes = minutes.add(product(t, set).multiply(big(e)));
        }
        return line(minutes, odds(t, s -> endAt(s) != null), side);
    }

    /** The odds by the minute THE END comes. */
    private BigInteger[] byMinute() {
        BigInteger[] by = new BigInteger[541];
        Arrays.fill(by, BigInteger.ZERO);
        int[] t = shares();
        for (int set = 0; set < 1 << ps.size(); set++) {
            Integer e = endAt(set);
            if (e != null) by[e] = by[e].add(product(t, set));
        }
        return by;
    }

    private int worth(BigInteger[] by, int b) {
        BigInteger sum = BigInteger.ZERO;
        for (int m = 0; m < by.length; m++) {
            if (by[m].signum() == 0) continue;
            int at = m + b;
            int value = 100;
            if (at < ready) value -= early * (ready - at);
            if (at > ready) value -= late * (at - ready);
            if (value > 0) sum = sum.add(by[m].multiply(big(value)));
        }
        return sum.multiply(big(1000)).divide(whole()).intValueExact();
    }

    int worth(int b) {
        return b < -300 || b > 300 ? -2000000000 : worth(byMinute(), b);
    }

    int begin(int what) {
        if (!bit(what)) return -2000000000;
        BigInteger[] by = byMinute();
        int best = -300;
        for (int b = -300; b <= 300; b++) if (worth(by, b) > worth(by, best)) best = b;
        return what == 0 ? best : worth(by, best);
    }

    int change(int how, int what) {
        if (how < 0 || how > 2 || !bit(what)) return -1;
        if (ps.isEmpty()) return -2;
        int[] t = shares();
        BigInteger most = null;
        int best = -1;
        BigInteger whole = whole().multiply(big(12));
        for (int k = 0; k < t.length; k++) {
            int k1 = k;
            int was = t[k];
            // by 144 parts: what works in one of both, or in one alone
            int works = how == 0 ? 24 * was - was * was : how == 1 ? 12 * Math.min(12, was + 1) : 144;
            t[k] = 12;
            BigInteger with = odds(t, s -> (s & 1 << k1) != 0 && endAt(s) != null).divide(big(12));
            t[k] = 0;
            BigInteger without = odds(t, s -> (s & 1 << k1) == 0 && endAt(s) != null).divide(big(12));
            t[k] = was;
            BigInteger one = with.multiply(big(works)).add(without.multiply(big(144 - works)));
            if (most == null || one.compareTo(most) > 0) {
                most = one;
                best = k;
            }
        }
        return what == 0 ? best : most.multiply(big(1000000)).divide(whole).intValueExact();
    }

    private boolean fires(int set) {
        return went(burns, set) && !went(stops, set);
    }

    long fire(int side) {
        return bit(side) ? line(odds(shares(), this::fires), whole(), side) : MIN;
    }

    // ---- where it failed

    private boolean told(int sg) {
        return sg >= 0 && sg < 512 * 512 && (sg % 512 | sg / 512) == sg / 512;
    }

    private boolean asTold(int sg, int set) {
        for (int k = 0; k < ps.size(); k++) {
            if ((sg / 512 & 1 << k) != 0 && went(k, set) != ((sg & 1 << k) != 0)) return false;
        }
        return true;
    }

    long failed(int sg, int one, int side) {
        if (!told(sg) || one < 0 || one >= ps.size() || !bit(side)) return MIN;
        return line(odds(shares(), s -> asTold(sg, s) && held(one, s)), odds(shares(), s -> asTold(sg, s)), side);
    }

    int look(int sg) {
        if (!told(sg)) return -1;
        int best = -2;
        BigInteger most = BigInteger.ZERO;
        for (int k = 0; k < ps.size(); k++) {
            int k1 = k;
            BigInteger one = odds(shares(), s -> asTold(sg, s) && held(k1, s));
            if (one.compareTo(most) > 0) {
                most = one;
                best = k;
            }
        }
        return best;
    }

    int test(int sg) {
        if (!told(sg)) return -1;
        BigInteger all = odds(shares(), s -> asTold(sg, s));
        int best = -2;
        BigInteger least = null;
        for (int k = 0; k < ps.size() && all.signum() > 0; k++) {
            if ((sg / 512 & 1 << k) != 0) continue;
            int k1 = k;
            BigInteger yes = odds(shares(), s -> asTold(sg, s) && went(k1, s));
            BigInteger greater = yes.max(all.subtract(yes));
            if (least == null || greater.compareTo(least) < 0) {
                least = greater;
                best = k;
            }
        }
        return best;
    }

    private int[] bestWay;
    private long bestSum;

    private void tryWays(int[] way, int k, int[] ages, long sum) {
        if (k == way.length) {
            if (sum > bestSum) {
                bestSum = sum;
                bestWay = way.clone();
            }
            return;
        }
        for (int who = -1; who < ages.length; who++) {
            int[] now = ages.clone();
            if (who >= 0) now[who] = 0;
            int[] t = new int[now.length];
            for (int i = 0; i < t.length; i++) t[i] = twelfths(i, now[i]);
            BigInteger odds = odds(t, s -> endAt(s) != null);
            for (int i = 0; i < now.length; i++) now[i] = Math.min(99, now[i] + 1);
            way[k] = who;
            tryWays(way, k + 1, now, sum + odds.multiply(big(1000000)).divide(whole()).longValueExact());
        }
    }

    int mending(int n, int k) {
        if (n < 1 || n > 3 || k < -1) return -3;
        if (ps.size() > 5) return -5;
        bestSum = -1;
        int[] ages = new int[ps.size()];
        for (int i = 0; i < ages.length; i++) ages[i] = ps.get(i).age;
        tryWays(new int[n], 0, ages, 0);
        return k == -1 ? (int) bestSum : k < n ? bestWay[k] : -2;
    }

    private boolean comesIn(int set, int minute) {
        Integer e = endAt(set);
        return e == null ? minute == -1 : e == minute;
    }

    int judge(int shelf) {
        if (shelf < 0 || shelf > 5) return -1;
        if (shelves[shelf] == null) return -11;
        if (!(shelves[shelf] instanceof short[])) return -12;
        short[] book = (short[]) shelves[shelf];
        for (int i = 0; i < book.length; i++) {
            int minute = book[i];
            if (odds(shares(), s -> comesIn(s, minute)).signum() == 0) return i;
        }
        return -2;
    }

    int how(int minute, int what) {
        if (minute < -1 || minute > 999 || !bit(what)) return -1;
        int[] t = shares();
        int ways = 0;
        int best = -2;
        BigInteger most = BigInteger.ZERO;
        for (int set = 0; set < 1 << ps.size(); set++) {
            BigInteger one = product(t, set);
            if (one.signum() == 0 || !comesIn(set, minute)) continue;
            ways++;
            if (one.compareTo(most) > 0) {
                most = one;
                best = set;
            }
        }
        return what == 0 ? ways : best;
    }

    int whose(int shelf, int one) {
        if (shelf < 0 || shelf > 5 || one < 0 || one >= ps.size()) return -1;
        if (shelves[shelf] == null) return -11;
        if (!(shelves[shelf] instanceof short[])) return -12;
        short[] book = (short[]) shelves[shelf];
        if (book.length > 8) return -5;
        int[] t = shares();
        int best = -1;
        BigInteger most = big(-1);
        for (int v = 0; v <= 12; v++) {
            t[one] = v;
            BigInteger product = BigInteger.ONE;
            for (short minute : book) {
                BigInteger odds = odds(t, s -> comesIn(s, minute));
                product = product.multiply(odds.multiply(big(100)).divide(whole()));
            }
            if (product.compareTo(most) > 0) {
                most = product;
                best = v;
            }
        }
        return best;
    }

    int drawn(int seed, int n, int what) {
        if (n < 1 || n > 50 || !bit(what)) return -1;
        int z = seed;
        int ends = 0;
        int minutes = 0;
        for (int i = 0; i < n; i++) {
            int set = 0;
            for (int k = 0; k < ps.size(); k++) {
                z = (int) (z * 1103515245L + 12345L);
                if (((z & 0xFFFFFFFFL) / 256) % 12 < works(k)) set += 1 << k;
            }
            Integer e = endAt(set);
            if (e != null) {
                ends++;
                minutes += e;
            }
        }
        return what == 0 ? ends : minutes;
    }

    // ---- in deed

    int morning(int set) {
        if (set < 0 || set > 511) return -1;
        Integer e = endAt(set);
        ledger[0]++;
        if (e != null) {
            ledger[1]++;
            ledger[2] += e;
        }
        for (int k = 0; k < ps.size(); k++) if (held(k, set)) ledger[3]++;
        if (fires(set)) ledger[4]++;
        for (Part p : ps) if (p.age < 99) p.age++;
        return e == null ? -2 : e;
    }

    int mended(int one) {
        if (one < 0 || one >= ps.size()) return -1;
        int was = ps.get(one).age;
        ps.get(one).age = 0;
        ledger[5]++;
        return was;
    }

    int led(int what) {
        return what < 0 || what > 5 ? -1 : (int) ledger[what];
    }

    int image() {
        ledgerImage = ledger.clone();
        agesImage = new int[ps.size()];
        for (int k = 0; k < agesImage.length; k++) agesImage[k] = ps.get(k).age;
        return (int) ledger[0];
    }

    int back() {
        if (ledgerImage == null) return -5;
        for (int k = 0; k < 6; k++) ledger[k] = ledgerImage[k];
        for (int k = 0; k < agesImage.length; k++) ps.get(k).age = agesImage[k];
        return (int) ledger[0];
    }

    // ---- acts

    private interface Starts {
        int number();

        void note(int body);

        default int starts(int x) {
            note(1);
            return x + number();
        }
    }

    private interface Tells {
        int takes(int x);

        int fails(int x);

        void note(int body);

        default int tells(int x) {
            note(2);
            return takes(x) - fails(1);
        }
    }

    private static class Pot implements Starts, Tells {
        private final Model model;
        private final int n;

        Pot(Model model, int n) {
            this.model = model;
            this.n = n;
        }

        @Override public int number() {
            return n;
        }

        @Override public void note(int body) {
            model.ran.add(body);
        }

        @Override public int takes(int x) {
            note(10);
            return starts(x) * 2;
        }

        @Override public int fails(int x) {
            note(11);
            return x ^ n;
        }

        int kind() {
            return Arrays.asList(Pot.class, Clock.class, Match.class, Lever.class, Cork.class, Kettle.class,
                Cat.class, Bell.class).indexOf(getClass());
        }
    }

    private static class Clock extends Pot {
        Clock(Model m, int n) {
            super(m, n);
        }

        @Override public int starts(int x) {
            note(20);
            return super.starts(x) + 3;
        }
    }

    private static class Match extends Pot {
        Match(Model m, int n) {
            super(m, n);
        }

        @Override public int takes(int x) {
            note(30);
            return -super.takes(x);
        }
    }

    private static class Lever extends Match {
        Lever(Model m, int n) {
            super(m, n);
        }

        @Override public int fails(int x) {
            note(40);
            return super.fails(x) * 3;
        }

        @Override public int takes(int x) {
            note(41);
            return super.takes(x + 1);
        }
    }

    private static class Cork extends Clock {
        Cork(Model m, int n) {
            super(m, n);
        }

        @Override public int tells(int x) {
            note(50);
            return super.tells(x) ^ 5;
        }
    }

    private static class Kettle extends Lever {
        Kettle(Model m, int n) {
            super(m, n);
        }

        @Override public int fails(int x) {
            note(60);
            return super.fails(x) - starts(2);
        }

        @Override public int tells(int x) {
            note(61);
            return super.tells(x) + 1;
        }
    }

    private static class Cat extends Pot {
        Cat(Model m, int n) {
            super(m, n);
        }

        @Override public int starts(int x) {
            note(70);
            return super.starts(x) * 2;
        }
    }

    private static class Bell extends Cat {
        Bell(Model m, int n) {
            super(m, n);
        }

        @Override public int takes(int x) {
            note(80);
            return super.takes(x) + fails(2);
        }

        @Override public int starts(int x) {
            note(81);
            return super.starts(x) - 1;
        }
    }

    private Pot made(int kind, int n) {
        switch (kind) {
            case 0: return new Pot(this, n);
            case 1: return new Clock(this, n);
            case 2: return new Match(this, n);
            case 3: return new Lever(this, n);
            case 4: return new Cork(this, n);
            case 5: return new Kettle(this, n);
            case 6: return new Cat(this, n);
            default: return new Bell(this, n);
        }
    }

    int body(int kind) {
        if (kind < 0 || kind > 7) return -1;
        if (pots.size() == 50) return -3;
        pots.add(made(kind, pots.size()));
        return pots.size() - 1;
    }

    int act(int body, int act, int x) {
        ran.clear();
        if (body < 0 || body >= pots.size()) return 0;
        Pot pot = pots.get(body);
        switch (act) {
            case 0: return pot.starts(x);
            case 1: return pot.takes(x);
            case 2: return pot.fails(x);
            case 3: return pot.tells(x);
            default: return 0;
        }
    }

    int trace(int i) {
        return i < 0 || i >= Math.min(24, ran.size()) ? -1 : ran.get(i);
    }

    // ---- shelves

    int keep(int shelf, int body) {
        if (shelf < 0 || shelf > 5 || body < -1 || body >= pots.size()) return -1;
        shelves[shelf] = body == -1 ? null : pots.get(body);
        return 1;
    }

    int row(int shelf, int sort, int n) {
        if (shelf < 0 || shelf > 5 || sort < 0 || sort > 4 || n > 60) return -1;
        if (n < 0) return -14;
        shelves[shelf] = sort == 0 ? new byte[n] : sort == 1 ? new short[n] : sort == 2 ? new int[n]
            : sort == 3 ? new long[n] : new boolean[n];
        return 1;
    }

    int put(int shelf, int i, long v) {
        if (shelf < 0 || shelf > 5) return -1;
        Object o = shelves[shelf];
        if (o == null) return -11;
        if (o instanceof Pot) return -12;
        try {
            if (o instanceof byte[]) ((byte[]) o)[i] = (byte) v;
            if (o instanceof short[]) ((short[]) o)[i] = (short) v;
            if (o instanceof int[]) ((int[]) o)[i] = (int) v;
            if (o instanceof long[]) ((long[]) o)[i] = v;
            if (o instanceof boolean[]) ((boolean[]) o)[i] = v != 0;
        } catch (ArrayIndexOutOfBoundsException e) {
            return -13;
        }
        return 1;
    }

    long element(int shelf, int i) {
        if (shelf < 0 || shelf > 5) return MIN;
        Object o = shelves[shelf];
        if (o == null) return MIN;
        if (o instanceof Pot) return MIN;
        try {
            if (o instanceof byte[]) return ((byte[]) o)[i];
            if (o instanceof short[]) return ((short[]) o)[i];
            if (o instanceof int[]) return ((int[]) o)[i];
            if (o instanceof long[]) return ((long[]) o)[i];
            return ((boolean[]) o)[i] ? 1 : 0;
        } catch (ArrayIndexOutOfBoundsException e) {
            return MIN;
        }
    }

    int shift(int shelf, int i, int other, int j, int n) {
        if (shelf < 0 || shelf > 5 || other < 0 || other > 5) return -1;
        try {
            System.arraycopy(shelves[shelf], i, shelves[other], j, n);
        } catch (NullPointerException e) {
            return -11;
        } catch (ArrayStoreException e) {
            return -12;
        } catch (IndexOutOfBoundsException e) {
            return -13;
        }
        return n;
    }

    int taken(int shelf, int k) {
        if (shelf < 0 || shelf > 5 || k < 0 || k > 7) return -1;
        if (shelves[shelf] == null) return -11;
        if (!(shelves[shelf] instanceof Pot)) return -12;
        Pot pot = (Pot) shelves[shelf];
        return made(k, 0).getClass().isInstance(pot) ? pot.kind() : -12;
    }

    int count(int what) {
        switch (what) {
            case 0: return ps.size();
            case 1: return tape.length();
            case 2: return doneChanges.size();
            case 3: return pots.size();
            case 4: return ran.size();
            default: return -1;
        }
    }
}
