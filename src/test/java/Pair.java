import java.lang.reflect.InvocationTargetException;
import java.lang.reflect.Method;
import java.util.Arrays;
import java.util.HashMap;
import java.util.Map;

/** One run of calls, made on an IceYard and on a PlainIceYard: each answer is held against the other's. */
final class Pair {
    static final int MOST_CALLS = 512;
    private static final Map<String, Method> REAL = methodsOf(IceYard.class);
    private static final Map<String, Method> PLAIN = methodsOf(PlainIceYard.class);

    private final Check check;
    private final IceYard real = new IceYard();
    private final PlainIceYard plain = new PlainIceYard();
    private final StringBuilder told = new StringBuilder();
    private int calls;

    Pair(Check check) {
        this.check = check;
    }

    private static Map<String, Method> methodsOf(Class<?> type) {
        Map<String, Method> methods = new HashMap<>();
        for (Method m : type.getDeclaredMethods()) {
            methods.put(m.getName(), m);
        }
        return methods;
    }

    long call(String name, long... args) {
        calls++;
        if (calls > MOST_CALLS) {
            throw new IllegalStateException("nothing is promised about call " + calls + " of " + told);
        }
        long[] taken = Arrays.copyOf(args, REAL.get(name).getParameterCount());
        told.append(' ').append(name).append(Arrays.toString(taken));
        long got = answer(real, REAL.get(name), args);
        long due = answer(plain, PLAIN.get(name), args);
        if (got == due) {
            check.due(name, got, due);
        } else {
            check.due(told.toString(), got, due);
        }
        return got;
    }

    private static long answer(Object x, Method m, long[] args) {
        Class<?>[] types = m.getParameterTypes();
        Object[] values = new Object[types.length];
        for (int i = 0; i < types.length; i++) {
            if (types[i] == long.class) {
                values[i] = args[i];
            } else {
                values[i] = (int) args[i];
            }
        }
        try {
            return ((Number) m.invoke(x, values)).longValue();
        } catch (InvocationTargetException | IllegalAccessException e) {
            throw new IllegalStateException(m + " of " + Arrays.toString(args), e);
        }
    }

    int callsLeft() {
        return MOST_CALLS - calls;
    }

    long lay(String text) {
        return lay(3, 2, text);
    }

    long lay(int sheet, int lane, String text) {
        call("sheet", sheet, lane, text.length());
        for (int i = 0; i < text.length(); i++) {
            call("put", sheet, i, text.charAt(i));
        }
        return call("yard", sheet, lane, 0, text.length());
    }
}
