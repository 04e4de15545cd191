import java.lang.reflect.InvocationTargetException;
import java.lang.reflect.Method;
import java.lang.reflect.Modifier;
import java.util.ArrayList;
import java.util.Arrays;
import java.util.Comparator;
import java.util.List;

/**
 * Rule 7 and all promises: calls with arguments of any kind, most of which are refused, on objects in
 * any state. No call throws, each answers as Oracle does. The runs are the same ones each time.
 */
public final class ExtremesTest {
    private static final Check check = new Check("ExtremesTest");
    private static final int CALLS = 512, RUNS = 400;
    private static final int[] INTS = {
        Integer.MIN_VALUE, Integer.MIN_VALUE + 1, -65536, -10, -2, -1, 4, 5, 6, 7, 8, 9, 10, 11, 15, 16, 17, 31, 32, 63, 64,
        511, 512, 1023, 1024, 65536, 1 << 30, Integer.MAX_VALUE - 1, Integer.MAX_VALUE,
    };
    private static final long[] LONGS = {
        Long.MIN_VALUE, Long.MIN_VALUE + 1, -(1L << 40) - 1, -(1L << 40), -(1L << 32), -100, -1, 1 << 20, (1 << 20) + 1,
        1L << 32, (1L << 32) + 1, (1L << 40) - 1, 1L << 40, (1L << 40) + 1, Long.MAX_VALUE - 1, Long.MAX_VALUE,
    };
    private static long seed = 7;

    public static void main(String[] args) throws ReflectiveOperationException {
        List<Method> methods = new ArrayList<>();
        for (Method m : SmallFloats.class.getDeclaredMethods()) {
            if (Modifier.isPublic(m.getModifiers())) {
                methods.add(m);
            }
        }
        methods.sort(Comparator.comparing(Method::getName));
        check.due("methods", 23, methods.size());
        for (int run = 0; run < RUNS; run++) {
            run(run, methods);
        }
        check.end();
    }

    private static int below(int n) {
        seed = seed * 6364136223846793005L + 1442695040888963407L;
        return (int) ((seed >>> 33) % n);
    }

    private static void run(int run, List<Method> methods) throws ReflectiveOperationException {
        SmallFloats x = new SmallFloats();
        Oracle due = new Oracle();
        // In some runs nearly all arguments are small ones, in others there is nothing but extremes.
        int wild = 1 + run % 8;
        int call = 0;
        for (int format = 0; format < run % 11; format++) {
            int e = 1 + below(3);
            int f = 1 + below(3);
            int top = below(3);
            check.due("format", due.format(1, e, f, format, format % 2 == 0, top), x.format(1, e, f, format, format % 2 == 0, top));
            call++;
        }
        for (; call < CALLS - 1; call += 2) {
            Method method = methods.get(below(methods.size()));
            Object[] arguments = arguments(method, wild);
            String name = "run " + run + ", " + method.getName() + Arrays.toString(arguments);
            Method same = Oracle.class.getDeclaredMethod(method.getName(), method.getParameterTypes());
            check.due(name, number(same, due, arguments, name), number(method, x, arguments, name));
            check.due("told() after " + name, due.told(), x.told());
        }
    }

    private static long number(Method method, Object on, Object[] arguments, String name) throws ReflectiveOperationException {
        try {
            return ((Number) method.invoke(on, arguments)).longValue();
        } catch (InvocationTargetException thrown) {
            check.same(name, "an answer", "with " + thrown.getCause());
            return 0;
        }
    }

    private static Object[] arguments(Method method, int wild) {
        Class<?>[] types = method.getParameterTypes();
        Object[] all = new Object[types.length];
        for (int i = 0; i < all.length; i++) {
            boolean small = below(8) >= wild;
            if (types[i] == boolean.class) {
                all[i] = below(2) == 0;
            } else if (types[i] == long.class) {
                all[i] = small ? (long) below(40) - 10 : LONGS[below(LONGS.length)];
            } else {
                all[i] = small ? below(4) : INTS[below(INTS.length)];
            }
        }
        return all;
    }
}
