import java.lang.reflect.Method;
import java.util.Arrays;

/** Calls told as texts: a name, and arguments parted by commas or blanks: numbers or signs like 'a'. */
final class Told {
    private WokenByKettle kettle = new WokenByKettle();

    void begin() {
        kettle = new WokenByKettle();
    }

    long call(String name, String told) throws ReflectiveOperationException {
        Method method = Arrays.stream(WokenByKettle.class.getMethods())
            .filter(m -> m.getName().equals(name) && m.getDeclaringClass() == WokenByKettle.class)
            .findFirst().orElseThrow(() -> new IllegalArgumentException("no such call: " + name));
        String[] texts = told.isBlank() ? new String[0] : told.trim().split("[, ]+");
        Object[] arguments = new Object[texts.length];
        for (int i = 0; i < texts.length; i++) {
            long v = texts[i].startsWith("'") ? texts[i].charAt(1) : Long.parseLong(texts[i]);
            arguments[i] = method.getParameterTypes()[i] == long.class ? (Object) v : (Object) Math.toIntExact(v);
        }
        return ((Number) method.invoke(kettle, arguments)).longValue();
    }
}
