import java.util.ArrayList;
import java.util.List;

/**
 * What is answered by a refusal changes nothing, and what is asked changes nothing: of two objects that have the same
 * run of calls behind them only one is told the call, and then both are asked all that can be asked.
 */
final class NothingChangesTest {
    private static final String TAPES = """
        tape(1, 2, 3) = 1 | item(1, 0, 70000) = 1 | tape(2, 0, 4) = 1 | item(2, 3, -5) = 1
        tape(3, 3, 2) = 1 | item(3, 1, MAX) = 1 | tape(4, 4, 2) = 1 | item(4, 0, 1) = 1
        """;

    /** Ghosts of either, things of either, a pinned one, all that is counted above 0; CAPACITY 8. */
    private static final String AT_FIRST = """
        set(2, 1) = 2 | put(0, 0, 50, 8, 5) = 0 | get(0, 0) = 50 | put(0, 1, 51, 9, 6) = 0 | pin(0, 1, true) = 0
        set(0, 10) = 20 | set(3, 0) = 1 | put(0, 2, 52, 2, 7) = 0 | put(0, 3, 53, 1, 8) = 0 | get(0, 3) = 53
        book(0, 0, 4) = 1 | book(0, 3, 2) = 2
        """;
    private static final String LATER = """
        put(0, 1, 61, 1, 9) = 2 | set(3, 2) = 0 | put(0, 4, 54, 3, 30) = 0 | set(3, 0) = 2 | put(0, 5, 55, 1, 40) = 0
        set(2, 3) = 1 | get(0, 5) = 55 | get(0, 0) = NO | get(3, 3) = NO | set(0, 8) = 10 | book(0, 5, 1) = 3
        book(0, 2, 3) = 4
        tape(0, 1, 5) = 1 | item(0, 1, 4) = 1 | item(0, 2, 5) = 1
        """ + TAPES;

    /** With an older image; the BOOK is right, PROBATION is told by a row of shorts. */
    private static final String THINGS = AT_FIRST + "image() = 2\n" + LATER;
    private static final String TWO_TRACES = """
        trace("pa6=4;ga4;ga5;xa2;ga0") = 0 | trace("pa0=3;pa2=2;ga1") = 1
        """;
    private static final String TWO_SIGNS = "feed(103) = 1 | feed(97) = 2";
    private static final String RICH = THINGS + TWO_TRACES + TWO_SIGNS;

    /** No image, a row of the BOOK that is otherwise, BORDER below CAPACITY. */
    private static final String WITHOUT = AT_FIRST + LATER + TWO_TRACES + """
        set(1, 5) = 8 | book(0, 4, 2) = 5 | book(0, 3, 2) = 6 | feed(112) = 1
        """;

    private static final String FULL_BOOK = "book(0, 1, 2) = 5 | book(0, 4, 1) = 6 | book(3, 77, 0) = 7 | "
        + "book(2, 9, 1) = 8\n";
    private static final String HUNDRED_SIGNS = text("pa12=1;".repeat(13) + "ga12;ga12");
    private static final String FULL_TEXT = THINGS + TWO_TRACES + FULL_BOOK + HUNDRED_SIGNS;
    private static final String MORE_TRACES = """
        trace("ga5;xa4") = 2 | trace("pa9=8") = 3 | trace("xa1") = 4 | trace("ga3;ga3") = 5
        """;
    private static final String SIX_TRACES = THINGS + TWO_TRACES + FULL_BOOK + MORE_TRACES + TWO_SIGNS;

    /** The next TRIM makes 0, 0 go; there is no image. */
    private static final String DUE_AT_FIRST = """
        set(3, 0) = 1 | put(0, 0, 77, 9, 4) = 0 | pin(0, 0, true) = 0 | put(0, 1, 78, 1, 4) = 0 | pin(0, 1, true) = 0
        set(0, 5) = 20 | set(1, 3) = 5 | pin(0, 0, false) = 1 | pin(0, 1, false) = 1 | trace("ga0;gb1;pa1=5") = 0
        trace("pb1=6;xb0") = 1 | book(0, 0, 1) = 1 | book(0, 1, 1) = 2
        tape(0, 1, 5) = 1 | item(0, 1, 0) = 1 | item(0, 2, 1) = 1
        """ + TAPES;

    /** THE TEXT is at fault. */
    private static final String DUE_WITHOUT = DUE_AT_FIRST + "feed(113) = 1";
    private static final String DUE = "put(2, 5, 9, 1, 9) = 0 | image() = 1 | drop(2, 5) = 1\n" + DUE_WITHOUT;
    private static final String DUE_BOOK = """
        book(0, 2, 0) = 3 | book(0, 3, 0) = 4 | book(0, 4, 0) = 5 | book(0, 5, 0) = 6 | book(3, 77, 0) = 7
        book(2, 5, 1) = 8
        """;
    private static final String DUE_FULL_TEXT = DUE_AT_FIRST + DUE_BOOK + HUNDRED_SIGNS;
    private static final String DUE_SIX_TRACES = DUE_AT_FIRST + DUE_BOOK + MORE_TRACES + TWO_SIGNS;

    private static final String REFUSED = """
        set(-1, 1) = NONE | set(4, 1) = NONE | set(MIN, 5) = NONE | set(0, 0) = BAD | set(0, 100) = BAD
        set(0, MAX) = BAD
        set(1, -1) = BAD | set(1, 100) = BAD | set(1, MIN) = BAD | set(2, 0) = BAD | set(2, 10) = BAD | set(3, -1) = BAD
        set(3, 10) = BAD
        told(-1) = NONE | told(14) = NONE
        put(-1, 0, 1, 1, 1) = NONE | put(4, 0, 1, 1, 1) = NONE | put(0, -1, 1, 1, 1) = NONE
        put(0, 100, 1, 1, 1) = NONE
        put(0, 0, 1, 0, 1) = BAD | put(0, 0, 1, 10, 1) = BAD | put(0, 0, 1, 1, -1) = BAD | put(0, 0, 1, 1, 100) = BAD
        put(0, 1, 1, 0, 1) = BAD | put(0, 1, 1, 1, 100) = BAD | put(0, 2, 1, 10, 1) = BAD | put(3, 77, 1, 1, -1) = BAD
        put(0, 4, 1, MAX, 1) = BAD
        get(-1, 0) = NO | get(4, 0) = NO | get(0, -1) = NO | get(0, 100) = NO | get(MIN, MAX) = NO
        drop(-1, 0) = NONE | drop(4, 0) = NONE | drop(0, -1) = NONE | drop(0, 100) = NONE | drop(1, -99) = NONE
        pin(-1, 0, true) = NONE | pin(4, 0, true) = NONE | pin(0, -1, false) = NONE | pin(0, 100, true) = NONE
        pin(3, 77, true) = STATE
        of(-1, 0, 0) = NONE | of(0, 100, 0) = NONE | of(0, 0, 7) = NONE | of(0, 0, -1) = NONE
        key(0, 0) = NONE | key(5, 0) = NONE | key(1, -1) = NONE | gone(-1) = NONE | victim(-1) = NONE | feed(-1) = BAD
        feed(128) = BAD
        run(-1) = NONE | run(6) = NONE | would(-1, 0) = NONE | would(6, 0) = NONE | would(0, 6) = NONE
        would(0, -1) = NONE
        need(-1, 1) = NONE | need(6, 1) = NONE | odds(-1, 1, 0) = NO | odds(6, 1, 0) = NO | odds(0, 21, 0) = NO
        odds(0, -1, 0) = NO | odds(0, 1, 2) = NO
        mean(0, 0) = NO | mean(3, 0) = NO | mean(1, 2) = NO | mean(1, -1) = NO
        book(-2, 0, 0) = NONE | book(4, 0, 0) = NONE | book(0, -1, 0) = NONE | book(0, 100, 0) = NONE
        book(0, 0, -1) = BAD | book(0, 0, 5) = BAD
        judge(-1, 0) = NONE | judge(6, 0) = NONE | count(-1) = BAD | count(7) = BAD
        tape(-1, 0, 1) = NONE | tape(6, 0, 1) = NONE | tape(0, 5, 1) = BAD | tape(0, -2, 1) = BAD | tape(0, 1, 61) = BAD
        tape(0, 1, -1) = SIZE
        tape(1, 0, 61) = BAD | tape(1, 3, MIN) = SIZE | tape(5, 9, 1) = BAD | tape(5, 1, 61) = BAD
        tape(5, 0, -1) = SIZE
        item(-1, 0, 1) = NONE | item(6, 0, 1) = NONE | item(5, 0, 1) = NOTHING | item(5, -1, 1) = NOTHING
        read(-1, 0) = NO | read(6, 0) = NO | read(5, 0) = NO | read(0, -1) = NO | read(0, 60) = NO
        shift(-1, 0, 0, 0, 1) = NONE | shift(0, 0, 6, 0, 1) = NONE | shift(0, 0, 5, 0, 1) = NOTHING
        shift(5, 0, 0, 0, 1) = NOTHING
        """;

    private static final String REFUSED_BY_TAPES = """
        judge(1, 0) = CAST | judge(2, 0) = CAST | judge(3, 0) = CAST | judge(4, -1) = CAST | item(0, -1, 1) = PLACE
        item(0, 5, 1) = PLACE
        item(1, 3, 1) = PLACE | item(4, MAX, 1) = PLACE | shift(0, 0, 1, 0, 1) = CAST | shift(4, 0, 2, 0, 1) = CAST
        shift(0, 0, 0, 1, 5) = PLACE | shift(0, -1, 0, 0, 1) = PLACE | shift(0, 0, 0, -1, 1) = PLACE
        shift(0, 0, 0, 0, -1) = PLACE
        shift(1, 0, 1, 3, 1) = PLACE | shift(3, 2, 3, 0, 1) = PLACE | shift(0, MAX, 0, 0, MAX) = PLACE
        need(0, 21) = BAD | need(0, -1) = BAD
        """;

    /** These are taken, and leave all as it is. */
    private static final String NOTHING_TO_DO = """
        drop(3, 77) = 0 | tape(5, -1, 99) = 1
        """;

    private static final String REFUSED_AT_FIRST = """
        undo() = STATE | run(0) = NONE | would(0, 0) = NONE | need(0, 1) = NONE | odds(0, 1, 0) = NO
        item(0, 0, 1) = NOTHING | shift(0, 0, 0, 0, 0) = NOTHING
        set(0, 20) = 20 | set(1, 10) = 10 | set(2, 2) = 2 | set(3, 1) = 1 | book(-1, 4, 9) = 0
        """;

    private static final String REFUSED_BY_THINGS = """
        put(0, 0, 9, 9, 9) = FULL | put(0, 1, 9, 9, 9) = FULL | put(0, 3, 9, 9, 9) = FULL | put(3, 77, 9, 9, 9) = FULL
        pin(0, 0, true) = STATE | pin(0, 2, true) = STATE | pin(0, 0, false) = STATE | set(1, 9) = BAD
        pin(0, 1, true) = 1 | pin(0, 5, false) = 0 | shift(0, 0, 0, 0, 5) = 5 | shift(0, 5, 0, 5, 0) = 0
        run(2) = NONE | would(2, 0) = NONE
        """;

    private static final String SET_AS_IT_IS = """
        set(0, 8) = 8 | set(1, 8) = 8 | set(2, 3) = 3 | set(3, 0) = 0
        """;
    private static final String ALL_AS_TOLD = """
        looked() = -5 | judge(0, 1) = -5
        """;

    private static final String REFUSED_WHEN_DUE = """
        put(0, 0, 9, 6, 9) = FULL | put(0, 1, 9, 9, 9) = FULL | put(3, 77, 9, 6, 9) = FULL | set(1, 6) = BAD
        pin(3, 0, true) = STATE | pin(0, 0, false) = 0 | set(2, 2) = 2 | set(3, 0) = 0 | run(1) = 0 | run(2) = NONE
        """;

    private static final String FULL_FOR_ALL = """
        book(0, 0, 0) = FULL | book(3, 77, 4) = FULL | book(0, 0, 5) = BAD | book(4, 0, 0) = NONE
        feed(-1) = BAD | feed(128) = BAD | run(6) = NONE | would(6, 0) = NONE
        """;
    private static final String TEXT_FULL = "feed(103) = FULL | feed(0) = FULL";

    private static final String QUESTIONS = """
        victim(0) | victim(1) | victim(3) | victim(MAX) | looked() | gone(0) | gone(19) | gone(20) | gone(MAX)
        mean(1, 0) | mean(1, 1) | mean(2, 0) | mean(2, 1) | judge(0, 0) | judge(0, 1) | judge(0, -1) | judge(0, 5)
        judge(1, 0) | judge(5, 0)
        would(0, 0) | would(0, 1) | would(0, 2) | would(0, 3) | would(0, 4) | would(0, 5) | would(1, 0) | would(1, 3)
        would(1, 5)
        need(0, 0) | need(0, 1) | need(0, 2) | need(0, 20) | need(1, 1) | odds(0, 0, 0) | odds(0, 1, 0) | odds(0, 1, 1)
        odds(0, 2, 1) | odds(1, 1, 0)
        key(1, 0) | key(2, 0) | key(3, 0) | key(4, 0) | key(1, 1) | key(1, MAX) | read(0, 0) | read(1, 0) | read(3, 1)
        read(4, 1)
        """;

    private NothingChangesTest() {
    }

    public static void main(String[] args) {
        String any = REFUSED + REFUSED_BY_TAPES + NOTHING_TO_DO;
        same("a new object", "", calls(REFUSED + NOTHING_TO_DO + REFUSED_AT_FIRST, true));
        same("a rich one", RICH, calls(any + REFUSED_BY_THINGS + SET_AS_IT_IS + ALL_AS_TOLD, true));
        same("one without an image", WITHOUT, calls(any + REFUSED_BY_THINGS + "undo() = STATE | looked() = 4", true));
        same("one with a full text", FULL_TEXT, calls(FULL_FOR_ALL + TEXT_FULL, true));
        same("one with six traces", SIX_TRACES, calls(FULL_FOR_ALL + "trace() = FULL", true));
        same("one that is due", DUE, calls(any + REFUSED_WHEN_DUE + ALL_AS_TOLD, true));
        same("one that is due, without an image", DUE_WITHOUT, calls(REFUSED_WHEN_DUE + "undo() = STATE", false));
        same("one that is due, with a full text", DUE_FULL_TEXT, calls(FULL_FOR_ALL + TEXT_FULL, true));
        same("one that is due, with six traces", DUE_SIX_TRACES, calls(FULL_FOR_ALL + "trace() = FULL", true));
        Script.end();
    }

    /** What is fed, as calls. */
    private static String text(String signs) {
        StringBuilder lines = new StringBuilder();
        for (int i = 0; i < signs.length(); i++) {
            lines.append("feed(").append((int) signs.charAt(i)).append(") = ").append(i + 1).append('\n');
        }
        return lines.toString();
    }

    private static List<String> calls(String refused, boolean withQuestions) {
        List<String> calls = Script.calls(refused);
        if (withQuestions) {
            calls.addAll(Script.calls(QUESTIONS));
            for (int what = 0; what < 14; what++) {
                calls.add("told(" + what + ")");
                calls.add("count(" + what % 7 + ")");
                calls.add("of(0, " + what / 7 + ", " + what % 7 + ")");
                calls.add("of(0, " + (2 + what / 7) + ", " + what % 7 + ")");
            }
        }
        return calls;
    }

    private static void same(String title, String lines, List<String> calls) {
        List<String> ahead = Script.calls(lines);
        for (List<String> questions : Questions.all()) {
            List<Long> due = answers(title, ahead, "", questions);
            for (String call : calls) {
                List<Long> got = answers(title, ahead, call, questions);
                for (int i = 0; i < due.size(); i++) {
                    Script.check(title + ", behind " + call + ": " + questions.get(i), got.get(i), due.get(i));
                }
            }
        }
    }

    private static List<Long> answers(String title, List<String> ahead, String call, List<String> questions) {
        SegmentedCache cache = new SegmentedCache();
        int calls = 1 + questions.size();
        for (String line : ahead) {
            calls += Script.one(title, line, cache);
        }
        if (calls > Script.MOST_CALLS) {
            throw new IllegalStateException(title + " makes " + calls + " calls");
        }
        if (call.contains(" = ")) {
            Script.one(title, call, cache);
        } else if (!call.isEmpty()) {
            Script.answer(cache, call);
        }
        List<Long> answers = new ArrayList<>();
        for (String question : questions) {
            answers.add(Script.answer(cache, question));
        }
        return answers;
    }
}
