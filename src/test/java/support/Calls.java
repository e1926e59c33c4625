import java.lang.reflect.InvocationTargetException;
import java.lang.reflect.Method;
import java.util.HashMap;
import java.util.Map;

/** Calls by their names, so that the class and the model that it is set against are asked the same. */
final class Calls {
    private static final Map<Class<?>, Map<String, Method>> KNOWN = new HashMap<>();

    private Calls() {
    }

    private static Map<String, Method> methods(Class<?> c) {
        Map<String, Method> all = new HashMap<>();
        for (Method m : c.getDeclaredMethods()) {
            all.put(m.getName(), m);
        }
        return all;
    }

    /** What a call answers, or the name of the exception that it throws; numbers that it does not take are left out. */
    static String outcome(Object bench, String name, int... numbers) {
        Method m = KNOWN.computeIfAbsent(bench.getClass(), Calls::methods).get(name);
        Class<?>[] types = m.getParameterTypes();
        Object[] given = new Object[types.length];
        for (int k = 0; k < types.length; k++) {
            given[k] = types[k] == boolean.class ? (Object) (numbers[k] % 2 != 0) : (Object) numbers[k];
        }
        try {
            return String.valueOf(m.invoke(bench, given));
        } catch (InvocationTargetException e) {
            if (e.getCause() instanceof RuntimeException thrown) {
                return thrown.getClass().getSimpleName();
            }
            throw new AssertionError(name, e.getCause());
        } catch (IllegalAccessException e) {
            throw new AssertionError(name, e);
        }
    }
}
