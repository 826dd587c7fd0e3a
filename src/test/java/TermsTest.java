import java.util.ArrayList;
import java.util.List;

/**
 * What the terms say of each object at any time (a key is in one place, weights are of all that is there, together,
 * numbers are within their bounds), and that what is asked is what would come of it: the same run of calls is made
 * anew, and then the thing done that was asked about.
 */
final class TermsTest {
    private static final int SPACES = 2, NUMBERS = 7, RUNS = 400, THERE = 5;

    /** Keys by place, the oldest first, as they are told by key. */
    private final List<List<Integer>> places = new ArrayList<>();
    private final int run;
    /** Made anew for each of what follows, so that none is used for more calls than the document tells. */
    private SegmentedCache cache;
    private int gets;
    private long seed;

    private TermsTest(int run) {
        this.run = run;
    }

    public static void main(String[] args) {
        for (int run = 0; run < RUNS; run++) {
            TermsTest test = new TermsTest(run);
            test.look();
            test.would();
            test.need();
            test.odds();
            test.victims();
            test.means();
            test.trims();
        }
        Script.end();
    }

    private int below(int n) {
        seed = seed * 6364136223846793005L + 1442695040888963407L;
        return (int) ((seed >>> 33) % n);
    }

    private void check(String what, long got, long due) {
        Script.check("run " + run + ": " + what, got, due);
    }

    /** A new object behind the calls of this run, which are the same whenever it is made. */
    private SegmentedCache made() {
        seed = run * 104729L + 3;
        gets = 0;
        SegmentedCache made = new SegmentedCache();
        made.set(0, 4 + below(30));
        made.set(1, below(made.told(0) + 1));
        made.set(2, 1 + below(3));
        made.set(3, below(3));
        feed(made);
        for (int calls = 5 + below(60); calls > 0; calls--) {
            change(made);
        }
        return made;
    }

    private void feed(SegmentedCache made) {
        int clauses = 1 + below(14);
        for (int i = 0; i < clauses; i++) {
            char kind = "ggggppx".charAt(below(7));
            Script.feed(made, (i == 0 ? "" : ";") + kind + (char) ('a' + below(SPACES)) + below(NUMBERS)
                + (kind == 'p' ? "=" + (1 + below(9)) : ""));
        }
        check("a trace", made.trace(), 0);
    }

    private void change(SegmentedCache made) {
        int space = below(SPACES);
        int number = below(NUMBERS);
        switch (below(12)) {
            case 0:
                made.set(0, 1 + below(30));
                break;
            case 1:
                made.set(1, below(made.told(0) + 1));
                break;
            case 2:
                made.drop(space, number);
                break;
            case 3:
                made.pin(space, number, below(3) == 0);
                break;
            case 4: case 5: case 6:
                made.get(space, number);
                gets++;
                break;
            default:
                made.put(space, number, below(100), 1 + below(9), below(100));
                break;
        }
    }

    private void look() {
        cache = made();
        for (int where = 1; where < THERE; where++) {
            places.add(new ArrayList<>());
            for (int k = 0; k < SPACES * NUMBERS && cache.key(where, k) >= 0; k++) {
                places.get(where - 1).add(cache.key(where, k));
            }
            List<Integer> there = places.get(where - 1);
            check("key behind the last of " + where, cache.key(where, there.size()), -5);
            check("how many are in " + where, cache.count(where - 1), there.size());
            int weight = 0;
            for (int key : there) {
                weight += cache.of(key / 100, key % 100, 1);
            }
            check("the weight of all in " + where + ", together", cache.told(where + 3), weight);
        }
        for (int number = 0; number < SPACES * NUMBERS; number++) {
            look(number / NUMBERS, number % NUMBERS);
        }
        within("CAPACITY", cache.told(0), 1, 99);
        within("BORDER", cache.told(1), 0, cache.told(0));
        within("HAUNTED", cache.told(10), 0, cache.told(9));
        check("HAD and MISSED", cache.told(8) + cache.told(9), gets);
    }

    /** A key is in one of the places at most, and has the facts that belong there. */
    private void look(int space, int number) {
        int times = 0;
        int where = cache.of(space, number, 0);
        for (int other = 1; other < THERE; other++) {
            int place = places.get(other - 1).indexOf(100 * space + number);
            times += place >= 0 ? 1 : 0;
            check("its place in " + other, place < 0 ? -5 : place, where == other ? cache.of(space, number, 6) : -5);
        }
        check("in how many places it is", times, where == 0 ? 0 : 1);
        int[] least = {1, 0, 0, 0, 0};
        int[] most = {9, 99, 99, 9, 1};
        for (int what = 1; what <= 5; what++) {
            boolean hasIt = where == 1 || where == 2 || what == 1 && where != 0;
            within("of " + what, cache.of(space, number, what), hasIt ? least[what - 1] : -5,
                hasIt ? most[what - 1] : -5);
        }
    }

    private void within(String what, int got, int least, int most) {
        check(what + " at least", Math.min(got, least), least);
        check(what + " at most", Math.max(got, most), most);
    }

    /** As many as a run makes. */
    private void would() {
        cache = made();
        SegmentedCache ran = made();
        check("run", ran.run(0), cache.would(0, 0));
        check("HAD", ran.told(8) - cache.told(8), cache.would(0, 0));
        check("MISSED", ran.told(9) - cache.told(9), cache.would(0, 1));
        check("HAUNTED", ran.told(10) - cache.told(10), cache.would(0, 2));
        check("BORDER", ran.told(1), cache.would(0, 3));
        check("WEIGHT of both", ran.told(4) + ran.told(5), cache.would(0, 4));
        check("how many WENT", ran.told(13) - cache.told(13), cache.would(0, 5));
    }

    /** The least capacity that is set, and then enough when it is run. */
    private void need() {
        cache = made();
        int most = 0;
        for (int capacity = 1; capacity <= 60; capacity++) {
            SegmentedCache ran = made();
            ran.set(0, capacity);
            int had = ran.run(0);
            for (; most < had; most++) {
                check("need " + (most + 1), cache.need(0, most + 1), capacity);
            }
        }
        check("need 0", cache.need(0, 0), 1);
        check("need more", cache.need(0, most + 1), -5);
    }

    /** By how many borders, of all that may be set, it is enough when it is run. */
    private void odds() {
        cache = made();
        int all = cache.told(0) + 1;
        int[] enough = new int[21];
        for (int border = 0; border < all; border++) {
            SegmentedCache ran = made();
            ran.set(1, border);
            for (int had = ran.run(0); had >= 0; had--) {
                enough[had]++;
            }
        }
        for (int h = 0; h <= 20; h++) {
            fraction("odds " + h, cache.odds(0, h, 0), cache.odds(0, h, 1), enough[h], all);
        }
    }

    private void fraction(String what, long above, long below, long dueAbove, long dueBelow) {
        check(what + ", as much", above * dueBelow, dueAbove * below);
        for (int divisor = 2; divisor <= below; divisor++) {
            check(what + ", lowest terms", above % divisor == 0 && below % divisor == 0 ? 1 : 0, 0);
        }
        check(what + ", above 0 below the line", below > 0 ? 1 : 0, 1);
    }

    /** As by the least capacity that can be set, by which not more than one of weight 1 stays. */
    private void victims() {
        cache = made();
        SegmentedCache trimmed = made();
        trimmed.set(1, 0);
        trimmed.set(0, 1);
        int went = trimmed.told(13) - cache.told(13);
        for (int k = 0; k < went; k++) {
            check("victim " + k, cache.victim(k), trimmed.gone(went - 1 - k));
        }
        boolean mayStay = trimmed.told(4) + trimmed.told(5) == 1;
        int loose = 0;
        for (int number = 0; number < SPACES * NUMBERS; number++) {
            loose += cache.of(number / NUMBERS, number % NUMBERS, 5) == 0 ? 1 : 0;
        }
        check("how many would go", cache.victim(loose), -5);
        check("the last one goes", loose == 0 || cache.victim(loose - 1) >= 0 ? 1 : 0, 1);
        check("one may stay", mayStay || went == loose ? 1 : 0, 1);
    }

    private void means() {
        cache = made();
        for (int where = 1; where <= 2; where++) {
            List<Integer> there = places.get(where - 1);
            int costs = 0;
            for (int key : there) {
                costs += cache.of(key / 100, key % 100, 2);
            }
            if (there.isEmpty()) {
                check("no mean", cache.mean(where, 0), SegmentedCache.NO);
                check("no mean", cache.mean(where, 1), SegmentedCache.NO);
            } else {
                fraction("mean", cache.mean(where, 0), cache.mean(where, 1), costs, there.size());
            }
        }
    }

    /** Behind a trim no weight is more than it may be, but for what is pinned. */
    private void trims() {
        SegmentedCache trimmed = made();
        trimmed.set(1, trimmed.told(1));
        int[] loose = new int[3];
        for (int number = 0; number < SPACES * NUMBERS; number++) {
            if (trimmed.of(number / NUMBERS, number % NUMBERS, 5) == 0) {
                loose[trimmed.of(number / NUMBERS, number % NUMBERS, 0)]++;
            }
        }
        check("PROTECTED by BORDER", trimmed.told(5) > trimmed.told(1) && loose[2] > 0 ? 1 : 0, 0);
        boolean isTooMuch = trimmed.told(4) + trimmed.told(5) > trimmed.told(0);
        check("both by CAPACITY", isTooMuch && loose[1] + loose[2] > 0 ? 1 : 0, 0);
        within("GHOSTS of PROBATION", trimmed.told(6), 0, trimmed.told(0));
        within("GHOSTS of PROTECTED", trimmed.told(7), 0, trimmed.told(0));
    }
}
