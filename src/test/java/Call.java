import java.lang.reflect.InvocationTargetException;
import java.lang.reflect.Method;
import java.lang.reflect.Modifier;
import java.util.Arrays;
import java.util.HashMap;
import java.util.Map;

/** A call by its name, so that one row of a table both tells it and makes it. */
final class Call {
    private static final Map<String, Method> METHODS = new HashMap<>();

    private final String method;
    private final long[] args;

    Call(String method, long... args) {
        this.method = method;
        this.args = args.clone();
    }

    /** Makes the call on a VoltNumbers or on a PlainModel; what it throws is a fault of its own. */
    long on(Object x) {
        Method found = METHODS.computeIfAbsent(x.getClass().getName() + " " + method, key -> find(x.getClass()));
        Class<?>[] kinds = found.getParameterTypes();
        Object[] values = new Object[args.length];
        for (int i = 0; i < args.length; i++) {
            values[i] = kinds[i] == int.class ? (Object) Math.toIntExact(args[i]) : (Object) args[i];
        }
        try {
            return ((Number) found.invoke(x, values)).longValue();
        } catch (InvocationTargetException thrown) {
            throw new IllegalStateException(this + " threw", thrown.getCause());
        } catch (IllegalAccessException hidden) {
            throw new IllegalStateException(this + " can not be called", hidden);
        }
    }

    private Method find(Class<?> type) {
        for (Method found : type.getDeclaredMethods()) {
            if (found.getName().equals(method) && !Modifier.isPrivate(found.getModifiers())) {
                return found;
            }
        }
        throw new IllegalArgumentException("there is no " + method);
    }

    /** The same call with another number in one place. */
    Call with(int place, long value) {
        long[] others = args.clone();
        others[place] = value;
        return new Call(method, others);
    }

    @Override
    public String toString() {
        String row = Arrays.toString(args);
        return method + "(" + row.substring(1, row.length() - 1) + ")";
    }
}
