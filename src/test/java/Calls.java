import java.lang.reflect.Method;
import java.lang.reflect.Modifier;
import java.util.Map;
import java.util.TreeMap;

/** Calls told by name and numbers. */
final class Calls {
    private static final Map<String, Method> METHODS = methods();

    private Calls() {
    }

    private static Map<String, Method> methods() {
        Map<String, Method> found = new TreeMap<>();
        for (Method m : FaceCuts.class.getDeclaredMethods()) {
            if (Modifier.isPublic(m.getModifiers())) {
                found.put(m.getName(), m);
            }
        }
        return found;
    }

    static long answer(FaceCuts cuts, String name, String... numbers) throws Exception {
        Method m = METHODS.get(name);
        if (m == null || m.getParameterCount() != numbers.length) {
            throw new IllegalArgumentException("no such call: " + name + " by " + numbers.length + " numbers");
        }
        Object[] args = new Object[numbers.length];
        for (int i = 0; i < args.length; i++) {
            long v = Long.parseLong(numbers[i]);
            if (m.getParameterTypes()[i] == long.class) {
                args[i] = v;
            } else {
                args[i] = Math.toIntExact(v);
            }
        }
        return ((Number) m.invoke(cuts, args)).longValue();
    }
}
