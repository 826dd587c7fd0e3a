import java.lang.reflect.InvocationTargetException;
import java.lang.reflect.Method;

/** No call ever throws, whatever it is told, in whatever state. */
final class AnyNumbersTest {
    private static final int[] NUMBERS = {Integer.MIN_VALUE, Integer.MIN_VALUE + 1, -101, -100, -2, -1, 0, 1, 2, 3, 4,
        5, 6, 7, 8, 9, 10, 20, 59, 60, 61, 99, 100, 101, 127, 128, 399, 400, Integer.MAX_VALUE - 1, Integer.MAX_VALUE};
    private static long seed = 5;

    private AnyNumbersTest() {
    }

    public static void main(String[] args) throws IllegalAccessException {
        for (int run = 0; run < 400; run++) {
            play(run);
        }
        Script.check("all calls answered", 1, 1);
        Script.end();
    }

    private static int below(int n) {
        seed = seed * 6364136223846793005L + 1442695040888963407L;
        return (int) ((seed >>> 33) % n);
    }

    private static void play(int run) throws IllegalAccessException {
        SegmentedCache cache = new SegmentedCache();
        fill(cache, run);
        for (int call = 0; call < 1000; call++) {
            for (Method method : SegmentedCache.class.getDeclaredMethods()) {
                if (java.lang.reflect.Modifier.isPublic(method.getModifiers()) && below(8) == 0) {
                    one(cache, method);
                }
            }
        }
    }

    private static void fill(SegmentedCache cache, int run) {
        cache.set(0, 1 + below(99));
        for (int i = 0; i < run; i++) {
            int number = below(100);
            cache.put(below(4), number, i, 1 + below(9), below(100));
            cache.pin(below(4), below(100), true);
        }
        for (int i = 0; i < 3; i++) {
            Script.feed(cache, "pa1=3;gb2;xc3;pd99=9;ga1;pb2=1");
            cache.trace();
        }
    }

    private static void one(SegmentedCache cache, Method method) throws IllegalAccessException {
        Class<?>[] types = method.getParameterTypes();
        Object[] arguments = new Object[types.length];
        for (int i = 0; i < types.length; i++) {
            int number = NUMBERS[below(NUMBERS.length)];
            arguments[i] = types[i] == boolean.class ? (Object) (number > 0)
                : types[i] == long.class ? (Object) ((long) number * number) : (Object) number;
        }
        try {
            method.invoke(cache, arguments);
        } catch (InvocationTargetException e) {
            throw new IllegalStateException(method.getName() + java.util.List.of(arguments), e);
        }
    }
}
