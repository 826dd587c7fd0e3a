import java.lang.reflect.InvocationTargetException;
import java.lang.reflect.Method;
import java.util.ArrayList;
import java.util.HashMap;
import java.util.List;
import java.util.Map;

/**
 * Plays runs of calls that are written as text, one call a line, or several with " | " between them:
 * name(arguments) = the answer that is due. trace("ga1") feeds the signs between the quotes first.
 * Lines that begin with # say why.
 */
final class Script {
    /** What an object answers behind so many calls is not promised. */
    static final int MOST_CALLS = 512;

    /** Calls that were read once, so that long tests needn't read them again. */
    private static final Map<String, Prepared> PREPARED = new HashMap<>();

    /** A call, and the text that is fed ahead of it. */
    private record Prepared(String text, Method method, Object[] arguments) { }

    private static int asked = 0;
    private static int wrong = 0;

    private Script() {
    }

    /** Each run is on a new object. */
    static void play(String title, String lines) {
        SegmentedCache cache = new SegmentedCache();
        if (play(title, lines, cache) > MOST_CALLS) {
            throw new IllegalStateException(title + " makes more than " + MOST_CALLS + " calls");
        }
    }

    /** How many calls were made. */
    static int play(String title, String lines, SegmentedCache cache) {
        int made = 0;
        for (String call : calls(lines)) {
            made += one(title, call, cache);
        }
        return made;
    }

    /** The calls, each with its answer. */
    static List<String> calls(String lines) {
        List<String> calls = new ArrayList<>();
        for (String line : lines.split("\n")) {
            if (!line.strip().startsWith("#")) {
                for (String part : line.split(" \\| ")) {
                    if (!part.isBlank()) {
                        calls.add(part.strip());
                    }
                }
            }
        }
        return calls;
    }

    /** How many calls it is, for each sign that is fed is one. */
    static int one(String title, String call, SegmentedCache cache) {
        int cut = call.lastIndexOf(") =");
        String due = call.substring(cut + 3).strip();
        check(title + ": " + call, answer(cache, call.substring(0, cut + 1)), number(due));
        return 1 + (call.contains("\"") ? call.lastIndexOf('"') - call.indexOf('"') - 1 : 0);
    }

    static void check(String call, long got, long due) {
        asked++;
        if (got != due) {
            wrong++;
            System.out.println(call + " answered " + got + ", due is " + due);
        }
    }

    /** Says what came of it; the exit code is 1 if an answer was not the one that is due. */
    static void end() {
        System.out.println(asked + " answers looked at, " + wrong + " not as due");
        if (wrong != 0 || asked == 0) {
            System.exit(1);
        }
    }

    static long answer(SegmentedCache cache, String call) {
        Prepared made = PREPARED.computeIfAbsent(call, Script::prepare);
        feed(cache, made.text);
        try {
            return toLong(made.method.invoke(cache, made.arguments));
        } catch (IllegalAccessException | InvocationTargetException e) {
            throw new IllegalStateException(call, e);
        }
    }

    private static Prepared prepare(String call) {
        int cut = call.indexOf('(');
        Method method = method(call.substring(0, cut).strip());
        String inside = call.substring(cut + 1, call.lastIndexOf(')')).strip();
        String text = "";
        if (inside.startsWith("\"")) {
            text = inside.substring(1, inside.length() - 1);
            inside = "";
        }
        return new Prepared(text, method, arguments(method, inside.isEmpty() ? new String[0] : inside.split(",")));
    }

    static void feed(SegmentedCache cache, String text) {
        for (int i = 0; i < text.length(); i++) {
            cache.feed(text.charAt(i));
        }
    }

    static Method method(String name) {
        for (Method method : SegmentedCache.class.getMethods()) {
            if (method.getName().equals(name) && method.getDeclaringClass() == SegmentedCache.class) {
                return method;
            }
        }
        throw new IllegalStateException("no call " + name);
    }

    private static Object[] arguments(Method method, String[] words) {
        Class<?>[] types = method.getParameterTypes();
        if (types.length != words.length) {
            throw new IllegalStateException(method.getName() + " takes " + types.length);
        }
        Object[] made = new Object[words.length];
        for (int i = 0; i < made.length; i++) {
            String word = words[i].strip();
            if (types[i] == boolean.class) {
                made[i] = Boolean.valueOf(word);
            } else if (types[i] == long.class) {
                made[i] = number(word);
            } else {
                made[i] = (int) number(word);
            }
        }
        return made;
    }

    static long toLong(Object answer) {
        return ((Number) answer).longValue();
    }

    static long number(String word) {
        switch (word) {
            case "NONE": return SegmentedCache.NONE;
            case "BAD": return SegmentedCache.BAD;
            case "STATE": return SegmentedCache.STATE;
            case "FULL": return SegmentedCache.FULL;
            case "NO": return SegmentedCache.NO;
            case "NOTHING": return -11;
            case "CAST": return -12;
            case "PLACE": return -13;
            case "SIZE": return -14;
            case "MAX": return Integer.MAX_VALUE;
            case "MIN": return Integer.MIN_VALUE;
            default: return Long.parseLong(word);
        }
    }
}
