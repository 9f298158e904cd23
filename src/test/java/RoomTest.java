import com.sun.management.ThreadMXBean;
import java.lang.management.ManagementFactory;
import java.lang.reflect.Method;
import java.lang.reflect.Modifier;
import java.util.Arrays;
import java.util.Comparator;
import java.util.Random;

/** Wild arguments in any state: nothing is ever thrown, the same calls answer the same, and no call makes room its own. */
public final class RoomTest {
    private static final Check CHECK = new Check("RoomTest");
    private static final long[] WILD = {Integer.MIN_VALUE, Integer.MIN_VALUE + 1, Integer.MAX_VALUE,
        Integer.MAX_VALUE - 1, -1, -2, -300, -301, 300, 301, 0, 1, 2, 3, 4, 5, 6, 7, 8, 9, 10, 12, 13, 49, 50, 59, 60, 61,
        120, 255, 256, 511, 512, 999, 1000, 262143, 262144, 1201, 1260, 1005, 40, 41, 45, 119, 59, 63, 124};

    public static void main(String[] args) throws ReflectiveOperationException {
        Method[] face = face();
        for (int seed = 0; seed < 600; seed++) {
            wildRun(face, seed);
        }
        smallRoom();
        dearestCalls();
        CHECK.end();
    }

    private static Method[] face() {
        Method[] all = Arrays.stream(WokenByKettle.class.getDeclaredMethods())
            .filter(m -> Modifier.isPublic(m.getModifiers())).toArray(Method[]::new);
        Arrays.sort(all, Comparator.comparing(Method::getName));
        return all;
    }

    private static void wildRun(Method[] face, long seed) throws ReflectiveOperationException {
        Random random = new Random(seed * 0x9E3779B97F4A7C15L);
        WokenByKettle x = new WokenByKettle();
        WokenByKettle twin = new WokenByKettle();
        for (int i = 0; i < 512; i++) {
            Method method = face[random.nextInt(face.length)];
            Object[] arguments = new Object[method.getParameterCount()];
            for (int k = 0; k < arguments.length; k++) {
                long v = random.nextInt(3) == 0 ? random.nextInt(10) : WILD[random.nextInt(WILD.length)];
                arguments[k] = method.getParameterTypes()[k] == long.class ? (Object) v : (Object) (int) v;
            }
            long one = ((Number) method.invoke(x, arguments)).longValue();
            long two = ((Number) method.invoke(twin, arguments)).longValue();
            CHECK.due(method.getName() + Arrays.toString(arguments) + " once more", one, two);
        }
    }

    /** What one object takes: far below the room of all calls together. */
    private static void smallRoom() {
        ThreadMXBean bean = (ThreadMXBean) ManagementFactory.getThreadMXBean();
        long id = Thread.currentThread().getId();
        long before = bean.getThreadAllocatedBytes(id);
        WokenByKettle x = new WokenByKettle();
        long made = bean.getThreadAllocatedBytes(id) - before;
        CHECK.holds("an object takes " + made + " bytes", made < 200000);
        CHECK.due("parts", x.count(0), 0);
    }

    private static void dearestCalls() {
        WokenByKettle x = new WokenByKettle();
        warm(x);
        warm(x);
        ThreadMXBean bean = (ThreadMXBean) ManagementFactory.getThreadMXBean();
        long id = Thread.currentThread().getId();
        long before = bean.getThreadAllocatedBytes(id);
        long none = bean.getThreadAllocatedBytes(id) - before;
        before = bean.getThreadAllocatedBytes(id);
        warm(x);
        long made = bean.getThreadAllocatedBytes(id) - before - none;
        CHECK.holds("calls made " + made + " bytes", made < 5000);
    }

    private static long warm(WokenByKettle x) {
        long sum = 0;
        for (int i = 0; i < 9; i++) {
            sum += x.part((1 << i) - 1, 1160) + x.mend(i, 4, 3) + x.body(i) + x.keep(i, i) + x.row(i, i, 60);
        }
        for (int i = 0; i < 20; i++) {
            sum += x.feed("w-(a*e/10)%(5|d)?w;g".charAt(i));
        }
        sum += x.law() + x.begin(1) + x.change(0, 1) + x.likely(999, 1) + x.mean(0) + x.look(0) + x.test(0);
        sum += x.mending(3, 1) + x.judge(1) + x.how(-1, 1) + x.whose(1, 3) + x.drawn(5, 50, 1) + x.morning(511);
        sum += x.mended(3) + x.image() + x.back() + x.undo() + x.redo() + x.act(5, 3, 9) + x.shift(1, 0, 1, 1, 9);
        sum += x.parts(1, 0, 9) + x.put(1, 2, 3) + x.element(1, 2) + x.taken(0, 0) + x.fire(1) + x.failed(512, 0, 1);
        return sum;
    }
}
