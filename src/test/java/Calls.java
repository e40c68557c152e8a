import java.lang.reflect.InvocationTargetException;
import java.lang.reflect.Method;

/** Calls told as texts, such as "page(1, 0)", on a ShorthandCourt or on the PlainCourt that it is held against. */
final class Calls {
    private Calls() {
    }

    static String nameIn(String call) {
        return call.substring(0, call.indexOf('('));
    }

    static long answer(Object court, String call) {
        Method method = method(court.getClass(), nameIn(call));
        Class<?>[] types = method.getParameterTypes();
        String told = call.substring(call.indexOf('(') + 1, call.indexOf(')'));
        String[] parts = told.isEmpty() ? new String[0] : told.split(", ");
        if (parts.length != types.length) {
            throw new IllegalArgumentException(call);
        }
        Object[] values = new Object[parts.length];
        for (int i = 0; i < parts.length; i++) {
            values[i] = value(types[i], parts[i]);
        }
        try {
            return ((Number) method.invoke(court, values)).longValue();
        } catch (IllegalAccessException | InvocationTargetException e) {
            throw new IllegalStateException(call, e);
        }
    }

    private static Method method(Class<?> of, String name) {
        for (Method method : of.getDeclaredMethods()) {
            if (method.getName().equals(name)) {
                return method;
            }
        }
        throw new IllegalArgumentException(name);
    }

    private static Object value(Class<?> type, String told) {
        if (type == boolean.class) {
            return Boolean.valueOf(told);
        }
        if (type == long.class) {
            return Long.valueOf(told);
        }
        return Integer.valueOf(told);
    }
}
