import java.lang.reflect.InvocationTargetException;
import java.lang.reflect.Method;

/**
 * Plays runs of calls that are written as text, one call a line, or several with " | " between them:
 * name(arguments) = the answer that is due. trace("ga1") feeds the signs between the quotes first.
 * Lines that begin with # say why.
 */
final class Script {
    /** What an object answers behind so many calls is not promised. */
    static final int MOST_CALLS = 512;

    private static int asked = 0;
    private static int wrong = 0;

    private Script() {
    }

    /** Each run is on a new object. */
    static void play(String title, String lines) {
        SegmentedCache cache = new SegmentedCache();
        if (play(title, lines, cache) > MOST_CALLS) {
            throw new IllegalStateException(title + " makes more than " + MOST_CALLS + " calls");
        }
    }

    /** How many calls were made. */
    static int play(String title, String lines, SegmentedCache cache) {
        int calls = 0;
        for (String line : lines.split("\n")) {
            if (!line.strip().startsWith("#")) {
                for (String part : line.split(" \\| ")) {
                    String call = part.strip();
                    calls += call.isEmpty() ? 0 : one(title, call, cache);
                }
            }
        }
        return calls;
    }

    private static int one(String title, String call, SegmentedCache cache) {
        int cut = call.lastIndexOf(") =");
        String due = call.substring(cut + 3).strip();
        check(title + ": " + call, answer(cache, call.substring(0, cut)), number(due));
        return 1 + (call.contains("\"") ? call.lastIndexOf('"') - call.indexOf('"') - 1 : 0);
    }

    static void check(String call, long got, long due) {
        asked++;
        if (got != due) {
            wrong++;
            System.out.println(call + " answered " + got + ", due is " + due);
        }
    }

    /** Says what came of it; the exit code is 1 if an answer was not the one that is due. */
    static void end() {
        System.out.println(asked + " answers looked at, " + wrong + " not as due");
        if (wrong != 0 || asked == 0) {
            System.exit(1);
        }
    }

    static long answer(SegmentedCache cache, String call) {
        int cut = call.indexOf('(');
        String name = call.substring(0, cut).strip();
        String inside = call.substring(cut + 1).strip();
        if (inside.startsWith("\"")) {
            feed(cache, inside.substring(1, inside.length() - 1));
            inside = "";
        }
        String[] words = inside.isEmpty() ? new String[0] : inside.split(",");
        try {
            Method method = method(name);
            return toLong(method.invoke(cache, arguments(method, words)));
        } catch (IllegalAccessException | InvocationTargetException e) {
            throw new IllegalStateException(call, e);
        }
    }

    static void feed(SegmentedCache cache, String text) {
        for (int i = 0; i < text.length(); i++) {
            cache.feed(text.charAt(i));
        }
    }

    static Method method(String name) {
        for (Method method : SegmentedCache.class.getMethods()) {
            if (method.getName().equals(name) && method.getDeclaringClass() == SegmentedCache.class) {
                return method;
            }
        }
        throw new IllegalStateException("no call " + name);
    }

    private static Object[] arguments(Method method, String[] words) {
        Class<?>[] types = method.getParameterTypes();
        if (types.length != words.length) {
            throw new IllegalStateException(method.getName() + " takes " + types.length);
        }
        Object[] made = new Object[words.length];
        for (int i = 0; i < made.length; i++) {
            String word = words[i].strip();
            if (types[i] == boolean.class) {
                made[i] = Boolean.valueOf(word);
            } else if (types[i] == long.class) {
                made[i] = number(word);
            } else {
                made[i] = (int) number(word);
            }
        }
        return made;
    }

    static long toLong(Object answer) {
        return ((Number) answer).longValue();
    }

    static long number(String word) {
        switch (word) {
            case "NONE": return SegmentedCache.NONE;
            case "BAD": return SegmentedCache.BAD;
            case "STATE": return SegmentedCache.STATE;
            case "FULL": return SegmentedCache.FULL;
            case "NO": return SegmentedCache.NO;
            case "NOTHING": return -11;
            case "CAST": return -12;
            case "PLACE": return -13;
            case "SIZE": return -14;
            case "MAX": return Integer.MAX_VALUE;
            case "MIN": return Integer.MIN_VALUE;
            default: return Long.parseLong(word);
        }
    }
}
