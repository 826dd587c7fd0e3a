import java.lang.reflect.InvocationTargetException;
import java.lang.reflect.Method;
import java.util.ArrayList;
import java.util.List;

/** All promises: runs of up to 512 calls, the same on the class and on the model, have the same answers. */
final class RandomRunsTest {
    private static final String[] CHANGES = {"set", "put", "put", "put", "put", "put", "put", "put", "get", "get",
        "get", "get", "get", "get", "drop", "pin", "pin", "run", "run", "book", "image", "undo", "tape", "item",
        "item", "shift", "feed", "trace"};
    private static final String[] QUESTIONS = {"told", "of", "of", "key", "gone", "victim", "would", "need", "odds",
        "mean", "looked", "judge", "judge", "count", "read"};
    private static final int[] WILD = {-1, -2, 100, 101, Integer.MAX_VALUE, Integer.MIN_VALUE, 61, 128, 10, 400};

    private final SegmentedCache cache = new SegmentedCache();
    private final Model model = new Model();
    private final List<String> before = new ArrayList<>();
    private int calls;
    private final int spaces;
    private final int numbers;
    private final int mostCapacity;
    private final boolean isWild;
    private long seed;

    private RandomRunsTest(int run) {
        seed = run * 7919L + 17;
        int[] ranges = {3, 6, 12, 40, 100};
        spaces = 1 + below(4);
        numbers = ranges[below(ranges.length)];
        int[] capacities = {5, 12, 25, 60, 99};
        mostCapacity = capacities[below(capacities.length)];
        isWild = run % 3 == 0;
    }

    public static void main(String[] args) throws IllegalAccessException {
        for (int run = 0; run < 3000; run++) {
            new RandomRunsTest(run).play("run " + run);
        }
        Script.end();
    }

    private int below(int n) {
        seed = seed * 6364136223846793005L + 1442695040888963407L;
        return (int) ((seed >>> 33) % n);
    }

    private void play(String title) throws IllegalAccessException {
        both(title, "set", 0, 1 + below(mostCapacity));
        int changing = 100 + below(270);
        while (calls < changing) {
            if (below(60) == 0) {
                feedTrace();
                both(title, "trace");
            } else {
                String[] names = below(3) == 0 ? QUESTIONS : CHANGES;
                any(title, names[below(names.length)]);
            }
        }
        while (calls < Script.MOST_CALLS) {
            askAny(title);
        }
    }

    private void any(String title, String name) throws IllegalAccessException {
        Method method = Script.method(name);
        Object[] arguments = new Object[method.getParameterCount()];
        int what = below(12);
        for (int i = 0; i < arguments.length; i++) {
            arguments[i] = argument(method, i, what);
        }
        both(title, name, arguments);
    }

    private Object argument(Method method, int i, int what) {
        Class<?> type = method.getParameterTypes()[i];
        if (type == boolean.class) {
            return below(2) == 0;
        }
        if (type == long.class) {
            return below(2) == 0 ? (long) below(400) : seed;
        }
        if (isWild && below(15) == 0) {
            return WILD[below(WILD.length)];
        }
        return tame(method.getName(), i, what);
    }

    /** Mostly a number that the call can do something with. */
    private int tame(String name, int i, int what) {
        switch (name) {
            case "set":
                int sort = what < 5 ? 0 : what < 9 ? 1 : what - 8;
                int[] most = {mostCapacity, cache.told(0) + 1, 10, 10};
                return i == 0 ? sort : below(most[Math.min(sort, 3)] + 1);
            case "put":
                return i == 0 ? below(spaces) : i == 1 ? below(numbers) : i == 3 ? 1 + below(9) : below(100);
            case "get": case "drop": case "pin": case "of": case "book":
                return i == 0 ? below(spaces) : i == 1 ? below(numbers) : below(name.equals("book") ? 5 : 7);
            case "key":
                return i == 0 ? 1 + below(4) : below(8);
            case "gone": case "victim":
                return below(25);
            case "run": case "would": case "need": case "odds":
                return i == 0 ? below(3) : i == 1 ? below(6) : below(2);
            case "mean":
                return i == 0 ? 1 + below(2) : below(2);
            case "told":
                return below(14);
            case "count":
                return below(7);
            case "feed":
                return "gpxabcd0123456789=;".charAt(below(19));
            default:
                return tapeNumber(name, i);
        }
    }

    private int tapeNumber(String name, int i) {
        if (i == 0 || name.equals("shift") && i == 2) {
            return below(3);
        }
        if (name.equals("tape")) {
            return i == 1 ? below(6) - 1 : below(62);
        }
        return below(name.equals("shift") ? 12 : 5);
    }

    private void feedTrace() {
        StringBuilder text = new StringBuilder();
        int clauses = 1 + below(20);
        for (int i = 0; i < clauses; i++) {
            char kind = "gggggppppx".charAt(below(10));
            text.append(i == 0 ? "" : ";").append(kind).append((char) ('a' + below(spaces))).append(below(numbers));
            text.append(kind == 'p' ? "=" + (1 + below(9)) : "");
        }
        if (below(4) == 0) {
            text.setCharAt(below(text.length()), "gpxabcde0123456789=;- ".charAt(below(22)));
        }
        Script.feed(cache, text.toString());
        for (int i = 0; i < text.length(); i++) {
            model.feed(text.charAt(i));
        }
        calls += text.length();
        before.add("feed \"" + text + "\"");
    }

    /** One of all that can be asked about what there is. */
    private void askAny(String title) throws IllegalAccessException {
        int key = 100 * below(spaces) + below(numbers);
        switch (below(8)) {
            case 0:
                both(title, "told", below(14));
                break;
            case 1:
                both(title, "count", below(7));
                break;
            case 2:
                both(title, "gone", below(22));
                break;
            case 3:
                both(title, "victim", below(12));
                break;
            case 4:
                both(title, "read", below(6), below(62));
                break;
            case 5:
                both(title, "key", 1 + below(4), below(14));
                break;
            default:
                both(title, "of", key / 100, key % 100, below(7));
                break;
        }
    }

    private void both(String title, String name, Object... arguments) throws IllegalAccessException {
        Method ours = Script.method(name);
        String call = name + List.of(arguments);
        try {
            Method theirs = Model.class.getMethod(name, ours.getParameterTypes());
            calls++;
            long got = Script.toLong(ours.invoke(cache, arguments));
            long due = Script.toLong(theirs.invoke(model, arguments));
            before.add(call + " = " + due);
            Script.check(title + ", call " + before.size() + ": " + call, got, due);
        } catch (NoSuchMethodException | InvocationTargetException e) {
            throw new IllegalStateException(call + " behind " + before, e);
        }
    }
}
