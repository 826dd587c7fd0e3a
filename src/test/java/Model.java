import java.util.ArrayList;
import java.util.LinkedHashMap;
import java.util.List;
import java.util.Map;
import java.util.regex.Matcher;
import java.util.regex.Pattern;

/**
 * The document told once more, in another way: things as objects in ordered maps (the oldest first), traces by
 * patterns. It has the face of the class, so that the same calls may be made on both.
 */
final class Model {
    private static final int NONE = -1, BAD = -2, STATE = -3, FULL = -4, NOT = -5;
    private static final long NO = Long.MIN_VALUE;
    private static final String CLAUSE = "(?:[gx][a-d][0-9]{1,2}|p[a-d][0-9]{1,2}=[1-9])";
    private static final String TRACE = CLAUSE + "(?:;" + CLAUSE + "){0,19}";

    private static final class Thing {
        int value;
        int weight;
        int cost;
        int hits;
        int chances;
        boolean pinned;

        Thing copy() {
            Thing other = new Thing();
            other.value = value;
            other.weight = weight;
            other.cost = cost;
            other.hits = hits;
            other.chances = chances;
            other.pinned = pinned;
            return other;
        }
    }

    private static final class State {
        int capacity = 20;
        int border = 10;
        int rise = 2;
        int lives = 1;
        int had;
        int missed;
        int haunted;
        int saved;
        int paid;
        final LinkedHashMap<Integer, Thing> probation = new LinkedHashMap<>();
        final LinkedHashMap<Integer, Thing> guarded = new LinkedHashMap<>();
        final LinkedHashMap<Integer, Integer> ghosts = new LinkedHashMap<>();
        final LinkedHashMap<Integer, Integer> guardedGhosts = new LinkedHashMap<>();
        final List<Integer> went = new ArrayList<>();
        final List<int[]> book = new ArrayList<>();

        State copy() {
            State other = new State();
            other.capacity = capacity;
            other.border = border;
            other.rise = rise;
            other.lives = lives;
            other.had = had;
            other.missed = missed;
            other.haunted = haunted;
            other.saved = saved;
            other.paid = paid;
            probation.forEach((key, thing) -> other.probation.put(key, thing.copy()));
            guarded.forEach((key, thing) -> other.guarded.put(key, thing.copy()));
            other.ghosts.putAll(ghosts);
            other.guardedGhosts.putAll(guardedGhosts);
            other.went.addAll(went);
            other.book.addAll(book);
            return other;
        }

        int weigh(Map<Integer, Thing> queue) {
            return queue.values().stream().mapToInt(thing -> thing.weight).sum();
        }

        int weighGhosts(Map<Integer, Integer> some) {
            return some.values().stream().mapToInt(Integer::intValue).sum();
        }

        Integer firstLoose(Map<Integer, Thing> queue) {
            return queue.keySet().stream().filter(key -> !queue.get(key).pinned).findFirst().orElse(null);
        }

        void trim() {
            while (weigh(guarded) > border && firstLoose(guarded) != null) {
                Integer key = firstLoose(guarded);
                Thing thing = guarded.remove(key);
                thing.hits = 0;
                probation.put(key, thing);
            }
            while (weigh(probation) + weigh(guarded) > capacity) {
                Integer key = firstLoose(probation);
                if (key != null) {
                    Thing thing = probation.remove(key);
                    if (thing.chances > 0) {
                        thing.chances--;
                        probation.put(key, thing);
                    } else {
                        ghosts.put(key, thing.weight);
                        went.add(key);
                    }
                    continue;
                }
                key = firstLoose(guarded);
                if (key == null) {
                    break;
                }
                guardedGhosts.put(key, guarded.remove(key).weight);
                went.add(key);
            }
            for (LinkedHashMap<Integer, Integer> some : List.of(ghosts, guardedGhosts)) {
                while (weighGhosts(some) > capacity) {
                    some.remove(some.keySet().iterator().next());
                }
            }
        }

        void hit(int key) {
            boolean onProbation = probation.containsKey(key);
            Thing thing = onProbation ? probation.remove(key) : guarded.remove(key);
            thing.hits = Math.min(99, thing.hits + 1);
            (onProbation && thing.hits < rise ? probation : guarded).put(key, thing);
        }

        Thing thing(int key) {
            return probation.containsKey(key) ? probation.get(key) : guarded.get(key);
        }

        int put(int key, int value, int weight, int cost) {
            Thing thing = thing(key);
            int answer;
            if (thing != null) {
                thing.value = value;
                thing.weight = weight;
                thing.cost = cost;
                hit(key);
                answer = 2;
            } else {
                thing = new Thing();
                thing.value = value;
                thing.weight = weight;
                thing.cost = cost;
                paid += cost;
                if (ghosts.remove(key) != null) {
                    border = Math.max(0, border - weight);
                    guarded.put(key, thing);
                    answer = 1;
                } else if (guardedGhosts.remove(key) != null) {
                    border = Math.min(capacity, border + weight);
                    guarded.put(key, thing);
                    answer = 1;
                } else {
                    thing.chances = lives;
                    probation.put(key, thing);
                    answer = 0;
                }
            }
            trim();
            return answer;
        }

        long get(int key) {
            Thing thing = thing(key);
            if (thing == null) {
                missed++;
                if (ghosts.containsKey(key) || guardedGhosts.containsKey(key)) {
                    haunted++;
                }
                return NO;
            }
            hit(key);
            saved += thing.cost;
            had++;
            trim();
            return thing.value;
        }

        int where(int key) {
            return probation.containsKey(key) ? 1 : guarded.containsKey(key) ? 2
                : ghosts.containsKey(key) ? 3 : guardedGhosts.containsKey(key) ? 4 : 0;
        }

        LinkedHashMap<Integer, ?> at(int where) {
            return where == 1 ? probation : where == 2 ? guarded : where == 3 ? ghosts : guardedGhosts;
        }

        int drop(int key) {
            int where = where(key);
            if (where != 0) {
                at(where).remove(key);
            }
            return where;
        }

        int run(String trace) {
            int before = had;
            for (String clause : trace.split(";")) {
                Matcher parts = Pattern.compile("([gpx])([a-d])([0-9]{1,2})(?:=([1-9]))?").matcher(clause);
                if (!parts.matches()) {
                    throw new IllegalStateException(clause);
                }
                int key = 100 * (parts.group(2).charAt(0) - 'a') + Integer.parseInt(parts.group(3));
                if (parts.group(1).equals("g")) {
                    get(key);
                } else if (parts.group(1).equals("x")) {
                    drop(key);
                } else if (Integer.parseInt(parts.group(4)) <= capacity) {
                    put(key, 0, Integer.parseInt(parts.group(4)), 1);
                }
            }
            return had - before;
        }
    }

    private State now = new State();
    private State kept;
    private String text = "";
    private final List<String> traces = new ArrayList<>();
    private final int[] sorts = {-1, -1, -1, -1, -1, -1};
    private final long[][] rows = new long[6][0];

    private static int keyOf(int space, int number) {
        return space < 0 || space > 3 || number < 0 || number > 99 ? -1 : 100 * space + number;
    }

    private static boolean within(int n, int least, int most) {
        return n >= least && n <= most;
    }

    public int set(int what, int n) {
        int was;
        switch (what) {
            case 0:
                if (!within(n, 1, 99)) {
                    return BAD;
                }
                was = now.capacity;
                now.capacity = n;
                now.border = Math.min(now.border, n);
                now.trim();
                return was;
            case 1:
                if (!within(n, 0, now.capacity)) {
                    return BAD;
                }
                was = now.border;
                now.border = n;
                now.trim();
                return was;
            case 2:
                if (!within(n, 1, 9)) {
                    return BAD;
                }
                was = now.rise;
                now.rise = n;
                return was;
            case 3:
                if (!within(n, 0, 9)) {
                    return BAD;
                }
                was = now.lives;
                now.lives = n;
                return was;
            default:
                return NONE;
        }
    }

    public int told(int what) {
        int[] all = {now.capacity, now.border, now.rise, now.lives, now.weigh(now.probation), now.weigh(now.guarded),
            now.weighGhosts(now.ghosts), now.weighGhosts(now.guardedGhosts), now.had, now.missed, now.haunted,
            now.saved, now.paid, now.went.size()};
        return within(what, 0, 13) ? all[what] : NONE;
    }

    public int put(int space, int number, int value, int weight, int cost) {
        if (keyOf(space, number) < 0) {
            return NONE;
        }
        if (!within(weight, 1, 9) || !within(cost, 0, 99)) {
            return BAD;
        }
        return weight > now.capacity ? FULL : now.put(keyOf(space, number), value, weight, cost);
    }

    public long get(int space, int number) {
        return keyOf(space, number) < 0 ? NO : now.get(keyOf(space, number));
    }

    public int drop(int space, int number) {
        return keyOf(space, number) < 0 ? NONE : now.drop(keyOf(space, number));
    }

    public int pin(int space, int number, boolean isPinned) {
        if (keyOf(space, number) < 0) {
            return NONE;
        }
        Thing thing = now.thing(keyOf(space, number));
        if (thing == null) {
            return STATE;
        }
        boolean was = thing.pinned;
        thing.pinned = isPinned;
        return was ? 1 : 0;
    }

    public int of(int space, int number, int what) {
        int key = keyOf(space, number);
        if (key < 0 || !within(what, 0, 6)) {
            return NONE;
        }
        int where = now.where(key);
        if (what == 0) {
            return where;
        }
        if (where == 0) {
            return NOT;
        }
        if (what == 6) {
            return new ArrayList<>(now.at(where).keySet()).indexOf(key);
        }
        if (where > 2) {
            return what == 1 ? (Integer) now.at(where).get(key) : NOT;
        }
        Thing thing = now.thing(key);
        int[] all = {0, thing.weight, thing.cost, thing.hits, thing.chances, thing.pinned ? 1 : 0};
        return all[what];
    }

    public int key(int where, int k) {
        if (!within(where, 1, 4) || k < 0) {
            return NONE;
        }
        List<Integer> all = new ArrayList<>(now.at(where).keySet());
        return k < all.size() ? all.get(k) : NOT;
    }

    public int gone(int k) {
        if (k < 0) {
            return NONE;
        }
        return k < 20 && k < now.went.size() ? now.went.get(now.went.size() - 1 - k) : NOT;
    }

    public int victim(int k) {
        if (k < 0) {
            return NONE;
        }
        State then = now.copy();
        then.went.clear();
        then.capacity = 0;
        then.border = 0;
        then.trim();
        return k < then.went.size() ? then.went.get(k) : NOT;
    }

    public int feed(int sign) {
        if (!within(sign, 0, 127)) {
            return BAD;
        }
        if (text.length() == 100) {
            return FULL;
        }
        text += (char) sign;
        return text.length();
    }

    public int trace() {
        if (traces.size() == 6) {
            return FULL;
        }
        String whole = text;
        text = "";
        if (whole.matches(TRACE)) {
            traces.add(whole);
            return traces.size() - 1;
        }
        for (int end = 1; end <= whole.length(); end++) {
            if (!couldGoOn(whole.substring(0, end))) {
                return -10 - (end - 1);
            }
        }
        return -10 - whole.length();
    }

    private static boolean couldGoOn(String start) {
        String[] ends = {"", "ga1", "a1", "1", "pa1=1", "=1", "a1=1", "1=1"};
        for (String end : ends) {
            if ((start + end).matches(TRACE)) {
                return true;
            }
        }
        return false;
    }

    private boolean isTrace(int trace) {
        return within(trace, 0, traces.size() - 1);
    }

    public int run(int trace) {
        return isTrace(trace) ? now.run(traces.get(trace)) : NONE;
    }

    public int would(int trace, int what) {
        if (!isTrace(trace) || !within(what, 0, 5)) {
            return NONE;
        }
        State then = now.copy();
        int had = then.run(traces.get(trace));
        int[] all = {had, then.missed - now.missed, then.haunted - now.haunted, then.border,
            then.weigh(then.probation) + then.weigh(then.guarded), then.went.size() - now.went.size()};
        return all[what];
    }

    private int grows(int trace, int capacity, int border) {
        State then = now.copy();
        then.capacity = capacity;
        then.border = border;
        then.trim();
        return then.run(traces.get(trace));
    }

    public int need(int trace, int h) {
        if (!isTrace(trace)) {
            return NONE;
        }
        if (!within(h, 0, 20)) {
            return BAD;
        }
        for (int capacity = 1; capacity <= 60; capacity++) {
            if (grows(trace, capacity, Math.min(now.border, capacity)) >= h) {
                return capacity;
            }
        }
        return NOT;
    }

    private static long part(int above, int below, int part) {
        for (int divisor = below; divisor > 1; divisor--) {
            if (above % divisor == 0 && below % divisor == 0) {
                return (part == 0 ? above : below) / divisor;
            }
        }
        return part == 0 ? above : below;
    }

    public long odds(int trace, int h, int part) {
        if (!isTrace(trace) || !within(h, 0, 20) || !within(part, 0, 1)) {
            return NO;
        }
        int enough = 0;
        for (int border = 0; border <= now.capacity; border++) {
            enough += grows(trace, now.capacity, border) >= h ? 1 : 0;
        }
        return part(enough, now.capacity + 1, part);
    }

    public long mean(int where, int part) {
        if (!within(where, 1, 2) || !within(part, 0, 1)) {
            return NO;
        }
        LinkedHashMap<Integer, Thing> queue = where == 1 ? now.probation : now.guarded;
        if (queue.isEmpty()) {
            return NO;
        }
        return part(queue.values().stream().mapToInt(thing -> thing.cost).sum(), queue.size(), part);
    }

    public int book(int space, int number, int where) {
        if (space == -1) {
            now.book.clear();
            return 0;
        }
        if (keyOf(space, number) < 0) {
            return NONE;
        }
        if (!within(where, 0, 4)) {
            return BAD;
        }
        if (now.book.size() == 8) {
            return FULL;
        }
        now.book.add(new int[] {keyOf(space, number), where});
        return now.book.size();
    }

    public int looked() {
        for (int[] row : now.book) {
            if (now.where(row[0]) != row[1]) {
                return now.book.indexOf(row);
            }
        }
        return NOT;
    }

    public int judge(int tape, int i) {
        if (!within(tape, 0, 5)) {
            return NONE;
        }
        if (sorts[tape] != -1 && sorts[tape] != 1) {
            return -12;
        }
        int k = 0;
        for (int key : now.probation.keySet()) {
            long place = (long) i + k;
            if (i < 0 || place >= rows[tape].length) {
                return 100 + k;
            }
            if (rows[tape][(int) place] != key) {
                return k;
            }
            k++;
        }
        return NOT;
    }

    public int image() {
        kept = now.copy();
        return now.probation.size() + now.guarded.size();
    }

    public int undo() {
        if (kept == null) {
            return STATE;
        }
        now = kept.copy();
        return now.probation.size() + now.guarded.size();
    }

    public int count(int what) {
        int[] all = {now.probation.size(), now.guarded.size(), now.ghosts.size(), now.guardedGhosts.size(),
            traces.size(), now.book.size(), text.length()};
        return within(what, 0, 6) ? all[what] : BAD;
    }

    public int tape(int tape, int sort, int n) {
        if (!within(tape, 0, 5)) {
            return NONE;
        }
        if (!within(sort, -1, 4) || sort != -1 && n > 60) {
            return BAD;
        }
        if (sort != -1 && n < 0) {
            return -14;
        }
        sorts[tape] = sort;
        rows[tape] = new long[sort == -1 ? 0 : n];
        return 1;
    }

    public int item(int tape, int i, long v) {
        if (!within(tape, 0, 5)) {
            return NONE;
        }
        if (sorts[tape] == -1) {
            return -11;
        }
        if (!within(i, 0, rows[tape].length - 1)) {
            return -13;
        }
        long[] all = {(byte) v, (short) v, (int) v, v, v == 0 ? 0 : 1};
        rows[tape][i] = all[sorts[tape]];
        return 1;
    }

    public long read(int tape, int i) {
        return within(tape, 0, 5) && within(i, 0, rows[tape].length - 1) ? rows[tape][i] : NO;
    }

    public int shift(int tape, int i, int other, int j, int n) {
        if (!within(tape, 0, 5) || !within(other, 0, 5)) {
            return NONE;
        }
        if (sorts[tape] == -1 || sorts[other] == -1) {
            return -11;
        }
        if (sorts[tape] != sorts[other]) {
            return -12;
        }
        if (n < 0 || i < 0 || j < 0 || (long) i + n > rows[tape].length || (long) j + n > rows[other].length) {
            return -13;
        }
        long[] before = rows[tape].clone();
        for (int k = 0; k < n; k++) {
            rows[other][j + k] = before[i + k];
        }
        return n;
    }
}
