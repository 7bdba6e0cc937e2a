import java.lang.reflect.Method;
import java.util.Arrays;
import java.util.HashMap;
import java.util.Map;

/** A call of the class by its name, with what it is given, so that it can be told, and made again on another object. */
final class Call {
    private static final Map<String, Method> FACE = face();

    private final Method method;
    private final Object[] given;

    Call(String name, Object... told) {
        method = FACE.get(name);
        if (method == null || method.getParameterCount() != told.length) {
            throw new IllegalArgumentException(name + Arrays.toString(told));
        }
        given = new Object[told.length];
        for (int i = 0; i < told.length; i++) given[i] = fitting(method.getParameterTypes()[i], told[i]);
    }

    private static Map<String, Method> face() {
        Map<String, Method> face = new HashMap<>();
        for (Method each : SmallTongues.class.getMethods()) face.put(each.getName(), each);
        return face;
    }

    /** A number as the parameter wants it; for a boolean 0 is false. */
    private static Object fitting(Class<?> type, Object told) {
        if (told instanceof Boolean) return told;
        long number = ((Number) told).longValue();
        if (type == boolean.class) return number != 0;
        if (type == long.class) return number;
        return (int) number;
    }

    int on(SmallTongues tongues) {
        try {
            return (int) method.invoke(tongues, given);
        } catch (ReflectiveOperationException thrown) {
            throw new IllegalStateException(this + " threw", thrown);
        }
    }

    @Override
    public String toString() {
        String all = Arrays.toString(given);
        return method.getName() + "(" + all.substring(1, all.length() - 1) + ")";
    }
}
