import java.util.ArrayList;
import java.util.List;

/**
 * What is answered by a refusal changes nothing, and what is asked changes nothing: of two objects that have the same
 * run of calls behind them only one is told the call, and then both are asked all that can be asked.
 */
final class NothingChangesTest {
    private static final String TAPES = """
        tape(0, 1, 5) = 1 | item(0, 1, 1) = 1 | item(0, 2, 2) = 1 | tape(1, 2, 3) = 1 | item(1, 0, 70000) = 1
        tape(2, 0, 4) = 1 | item(2, 3, -5) = 1 | tape(3, 3, 2) = 1 | item(3, 1, MAX) = 1 | tape(4, 4, 2) = 1
        item(4, 0, 1) = 1
        """;

    /** Ghosts of either, things of either, pinned ones, all that is counted above 0; CAPACITY 8, an older image. */
    private static final String RICH = """
        set(2, 1) = 2 | put(0, 0, 50, 8, 5) = 0 | get(0, 0) = 50 | put(0, 1, 51, 9, 6) = 0 | pin(0, 1, true) = 0
        set(0, 10) = 20 | set(3, 0) = 1 | put(0, 2, 52, 2, 7) = 0 | put(0, 3, 53, 1, 8) = 0 | get(0, 3) = 53
        book(0, 0, 4) = 1 | book(0, 3, 2) = 2 | image() = 2
        put(0, 1, 61, 1, 9) = 2 | set(3, 2) = 0 | put(0, 4, 54, 3, 30) = 0 | set(3, 0) = 2 | put(0, 5, 55, 1, 40) = 0
        set(2, 3) = 1
        get(0, 5) = 55 | get(0, 0) = NO | get(3, 3) = NO | set(0, 8) = 10 | book(0, 5, 1) = 3 | book(0, 2, 3) = 4
        trace("pa6=4;ga4;ga5;xa2;ga0") = 0 | trace("pa0=3;pa2=2;ga1") = 1 | feed(103) = 1 | feed(97) = 2
        """ + TAPES;

    /** The next TRIM makes 0, 0 go; the image is of another state; THE TEXT is at fault. */
    private static final String DUE = """
        put(2, 5, 9, 1, 9) = 0 | image() = 1 | drop(2, 5) = 1
        set(3, 0) = 1 | put(0, 0, 77, 9, 4) = 0 | pin(0, 0, true) = 0 | put(0, 1, 78, 1, 4) = 0 | pin(0, 1, true) = 0
        set(0, 5) = 20
        pin(0, 0, false) = 1 | pin(0, 1, false) = 1 | trace("ga0;gb1;pa1=5") = 0 | trace("pb1=6;xb0") = 1
        feed(113) = 1
        """ + TAPES;

    /** Six traces, 100 signs, 8 rows of the book; CAPACITY 1, no image. */
    private static final String FULL = """
        set(0, 1) = 20 | put(0, 0, 5, 1, 5) = 0 | put(0, 1, 6, 1, 6) = 0 | put(0, 2, 7, 1, 7) = 0
        trace("pa0=1") = 0 | trace("ga2") = 1 | trace("xa1") = 2 | trace("ga0") = 3 | trace("pa5=2") = 4
        trace("pa1=1") = 5
        book(0, 0, 0) = 1 | book(0, 0, 1) = 2 | book(0, 0, 2) = 3 | book(0, 0, 3) = 4 | book(0, 0, 4) = 5
        book(0, 1, 3) = 6
        book(0, 1, 1) = 7 | book(0, 2, 0) = 8
        """ + "feed(103) = 1 | feed(97) = 2" + more(98) + "\n" + TAPES;

    private static final String REFUSED = """
        set(-1, 1) = NONE | set(4, 1) = NONE | set(MIN, 5) = NONE | set(0, 0) = BAD | set(0, 100) = BAD
        set(0, MAX) = BAD
        set(1, -1) = BAD | set(1, 100) = BAD | set(1, MIN) = BAD | set(2, 0) = BAD | set(2, 10) = BAD | set(3, -1) = BAD
        set(3, 10) = BAD
        told(-1) = NONE | told(14) = NONE
        put(-1, 0, 1, 1, 1) = NONE | put(4, 0, 1, 1, 1) = NONE | put(0, -1, 1, 1, 1) = NONE
        put(0, 100, 1, 1, 1) = NONE
        put(0, 0, 1, 0, 1) = BAD | put(0, 0, 1, 10, 1) = BAD | put(0, 0, 1, 1, -1) = BAD | put(0, 0, 1, 1, 100) = BAD
        put(0, 1, 1, 0, 1) = BAD | put(0, 1, 1, 1, 100) = BAD | put(0, 2, 1, 10, 1) = BAD | put(3, 77, 1, 1, -1) = BAD
        put(0, 4, 1, MAX, 1) = BAD
        get(-1, 0) = NO | get(4, 0) = NO | get(0, -1) = NO | get(0, 100) = NO | get(MIN, MAX) = NO
        drop(-1, 0) = NONE | drop(4, 0) = NONE | drop(0, -1) = NONE | drop(0, 100) = NONE | drop(1, -99) = NONE
        pin(-1, 0, true) = NONE | pin(4, 0, true) = NONE | pin(0, -1, false) = NONE | pin(0, 100, true) = NONE
        pin(3, 77, true) = STATE
        of(-1, 0, 0) = NONE | of(0, 100, 0) = NONE | of(0, 0, 7) = NONE | of(0, 0, -1) = NONE
        key(0, 0) = NONE | key(5, 0) = NONE | key(1, -1) = NONE | gone(-1) = NONE | victim(-1) = NONE | feed(-1) = BAD
        feed(128) = BAD
        run(-1) = NONE | run(6) = NONE | would(-1, 0) = NONE | would(6, 0) = NONE | would(0, 6) = NONE
        would(0, -1) = NONE
        need(-1, 1) = NONE | need(6, 1) = NONE | odds(-1, 1, 0) = NO | odds(6, 1, 0) = NO | odds(0, 21, 0) = NO
        odds(0, -1, 0) = NO | odds(0, 1, 2) = NO
        mean(0, 0) = NO | mean(3, 0) = NO | mean(1, 2) = NO | mean(1, -1) = NO
        book(-2, 0, 0) = NONE | book(4, 0, 0) = NONE | book(0, -1, 0) = NONE | book(0, 100, 0) = NONE
        book(0, 0, -1) = BAD | book(0, 0, 5) = BAD
        judge(-1, 0) = NONE | judge(6, 0) = NONE | count(-1) = BAD | count(7) = BAD
        tape(-1, 0, 1) = NONE | tape(6, 0, 1) = NONE | tape(0, 5, 1) = BAD | tape(0, -2, 1) = BAD | tape(0, 1, 61) = BAD
        tape(0, 1, -1) = SIZE
        tape(1, 0, 61) = BAD | tape(1, 3, MIN) = SIZE | tape(5, 9, 1) = BAD | tape(5, 1, 61) = BAD
        tape(5, 0, -1) = SIZE
        item(-1, 0, 1) = NONE | item(6, 0, 1) = NONE | item(5, 0, 1) = NOTHING | item(5, -1, 1) = NOTHING
        read(-1, 0) = NO | read(6, 0) = NO | read(5, 0) = NO | read(0, -1) = NO | read(0, 60) = NO
        shift(-1, 0, 0, 0, 1) = NONE | shift(0, 0, 6, 0, 1) = NONE | shift(0, 0, 5, 0, 1) = NOTHING
        shift(5, 0, 0, 0, 1) = NOTHING
        """;

    private static final String REFUSED_BY_TAPES = """
        judge(1, 0) = CAST | judge(2, 0) = CAST | judge(3, 0) = CAST | judge(4, -1) = CAST | item(0, -1, 1) = PLACE
        item(0, 5, 1) = PLACE
        item(1, 3, 1) = PLACE | item(4, MAX, 1) = PLACE | shift(0, 0, 1, 0, 1) = CAST | shift(4, 0, 2, 0, 1) = CAST
        shift(0, 0, 0, 1, 5) = PLACE | shift(0, -1, 0, 0, 1) = PLACE | shift(0, 0, 0, -1, 1) = PLACE
        shift(0, 0, 0, 0, -1) = PLACE
        shift(1, 0, 1, 3, 1) = PLACE | shift(3, 2, 3, 0, 1) = PLACE | shift(0, MAX, 0, 0, MAX) = PLACE
        need(0, 21) = BAD | need(0, -1) = BAD
        """;

    /** These are taken, and leave all as it is. */
    private static final String NOTHING_TO_DO = """
        drop(3, 77) = 0 | tape(5, -1, 99) = 1
        """;

    private static final String QUESTIONS = """
        victim(0) | victim(1) | victim(3) | victim(MAX) | looked() | gone(0) | gone(19) | gone(20) | gone(MAX)
        mean(1, 0) | mean(1, 1) | mean(2, 0) | mean(2, 1) | judge(0, 0) | judge(0, 1) | judge(0, -1) | judge(0, 5)
        judge(1, 0) | judge(5, 0)
        would(0, 0) | would(0, 1) | would(0, 2) | would(0, 3) | would(0, 4) | would(0, 5) | would(1, 0) | would(1, 3)
        would(1, 5)
        need(0, 0) | need(0, 1) | need(0, 2) | need(0, 20) | need(1, 1) | odds(0, 0, 0) | odds(0, 1, 0) | odds(0, 1, 1)
        odds(0, 2, 1) | odds(1, 1, 0)
        key(1, 0) | key(2, 0) | key(3, 0) | key(4, 0) | key(1, 1) | key(1, MAX) | read(0, 0) | read(1, 0) | read(3, 1)
        read(4, 1)
        """;

    private NothingChangesTest() {
    }

    public static void main(String[] args) {
        String byTapes = REFUSED + REFUSED_BY_TAPES + NOTHING_TO_DO;
        same("a new object", "", REFUSED + NOTHING_TO_DO + "undo() = STATE | run(0) = NONE | would(0, 0) = NONE | "
            + "need(0, 1) = NONE | odds(0, 1, 0) = NO"
            + " | item(0, 0, 1) = NOTHING | shift(0, 0, 0, 0, 0) = NOTHING | set(0, 20) = 20 | set(1, 10) = 10 | "
            + "set(2, 2) = 2 | set(3, 1) = 1 | book(-1, 4, 9) = 0");
        same("a rich one", RICH, byTapes + "put(0, 0, 9, 9, 9) = FULL | put(0, 1, 9, 9, 9) = FULL | "
            + "put(0, 3, 9, 9, 9) = FULL | put(3, 77, 9, 9, 9) = FULL"
            + " | pin(0, 0, true) = STATE | pin(0, 2, true) = STATE | pin(0, 0, false) = STATE | "
            + "pin(0, 1, true) = 1 | pin(0, 5, false) = 0 | set(1, 9) = BAD"
            + " | shift(0, 0, 0, 0, 5) = 5 | shift(0, 5, 0, 5, 0) = 0 | set(2, 3) = 3 | set(3, 0) = 0 | "
            + "run(2) = NONE | would(2, 0) = NONE");
        same("one that is due", DUE, byTapes + "put(0, 0, 9, 6, 9) = FULL | put(0, 1, 9, 9, 9) = FULL | "
            + "put(3, 77, 9, 6, 9) = FULL | set(1, 6) = BAD"
            + " | pin(3, 0, true) = STATE | pin(0, 0, false) = 0 | set(2, 2) = 2 | set(3, 0) = 0 | run(1) = 0 | "
            + "run(2) = NONE");
        same("a full one", FULL, byTapes + "feed(103) = FULL | feed(0) = FULL | trace() = FULL | "
            + "book(0, 0, 0) = FULL | book(3, 77, 4) = FULL"
            + " | put(0, 0, 9, 2, 9) = FULL | put(0, 2, 9, 2, 9) = FULL | put(3, 77, 9, 2, 9) = FULL | "
            + "undo() = STATE | set(1, 2) = BAD | run(4) = 0");
        Script.end();
    }

    private static String more(int signs) {
        StringBuilder lines = new StringBuilder();
        for (int i = 0; i < signs; i++) {
            lines.append(" | feed(49) = ").append(i + 3);
        }
        return lines.toString();
    }

    private static void same(String title, String ahead, String refused) {
        List<String> calls = parts(refused);
        calls.addAll(parts(QUESTIONS));
        for (int what = 0; what < 14; what++) {
            calls.add("told(" + what + ")");
            calls.add("count(" + what % 7 + ")");
            calls.add("of(0, " + what / 7 + ", " + what % 7 + ")");
            calls.add("of(0, " + (2 + what / 7) + ", " + what % 7 + ")");
        }
        for (List<String> questions : allQuestions()) {
            List<Long> due = answers(title, ahead, "", questions);
            for (String call : calls) {
                List<Long> got = answers(title, ahead, call, questions);
                for (int i = 0; i < due.size(); i++) {
                    Script.check(title + ", behind " + call + ": " + questions.get(i), got.get(i), due.get(i));
                }
            }
        }
    }

    private static List<String> parts(String lines) {
        List<String> parts = new ArrayList<>();
        for (String line : lines.split("\n")) {
            for (String part : line.split(" \\| ")) {
                if (!part.isBlank()) {
                    parts.add(part.strip());
                }
            }
        }
        return parts;
    }

    private static List<Long> answers(String title, String ahead, String call, List<String> questions) {
        SegmentedCache cache = new SegmentedCache();
        int calls = Script.play(title, ahead + "\n" + (call.contains("=") ? call : ""), cache) + 1;
        if (!call.isEmpty() && !call.contains("=")) {
            Script.answer(cache, call.substring(0, call.length() - 1));
        }
        List<Long> answers = new ArrayList<>();
        for (String question : questions) {
            answers.add(Script.answer(cache, question.substring(0, question.length() - 1)));
        }
        if (calls + questions.size() > Script.MOST_CALLS) {
            throw new IllegalStateException(title + " makes " + (calls + questions.size()) + " calls");
        }
        return answers;
    }

    /** Each list is asked of an object of its own, for some of them change it. */
    private static List<List<String>> allQuestions() {
        List<String> things = things();
        List<String> undone = new ArrayList<>(List.of("undo()"));
        undone.addAll(things);
        List<String> ran = new ArrayList<>(List.of("trace()", "count(4)", "count(6)"));
        for (int trace = 0; trace < 6; trace++) {
            ran.add("run(" + trace + ")");
            ran.add("told(8)");
        }
        ran.addAll(things);
        return List.of(things, undone, ran, tapes(), gets(), puts());
    }

    private static List<String> things() {
        List<String> all = new ArrayList<>();
        for (int what = 0; what < 14; what++) {
            all.add("told(" + what + ")");
        }
        for (int what = 0; what < 7; what++) {
            all.add("count(" + what + ")");
            for (int number = 0; number < 7; number++) {
                all.add("of(0, " + number + ", " + what + ")");
            }
            all.add("of(2, 5, " + what + ")");
            all.add("of(3, 77, " + what + ")");
        }
        for (int k = 0; k < 7; k++) {
            for (int where = 1; where < 5; where++) {
                all.add("key(" + where + ", " + k + ")");
            }
            all.add("gone(" + k + ")");
            all.add("victim(" + k + ")");
        }
        all.add("looked()");
        all.addAll(List.of("mean(1, 0)", "mean(1, 1)", "mean(2, 0)", "mean(2, 1)"));
        for (int trace = 0; trace < 2; trace++) {
            for (int what = 0; what < 6; what++) {
                all.add("would(" + trace + ", " + what + ")");
            }
            all.addAll(List.of("need(" + trace + ", 1)", "odds(" + trace + ", 1, 0)", "odds(" + trace + ", 1, 1)"));
        }
        return all;
    }

    private static List<String> tapes() {
        List<String> all = new ArrayList<>();
        for (int tape = 0; tape < 6; tape++) {
            for (int i = 0; i < 8; i++) {
                all.add("read(" + tape + ", " + i + ")");
            }
            all.add("read(" + tape + ", 59)");
            all.add("judge(" + tape + ", 0)");
            all.add("judge(" + tape + ", 1)");
            // The lowest bits tell which sort it is.
            all.add("item(" + tape + ", 0, 6442549377)");
            all.add("read(" + tape + ", 0)");
        }
        return all;
    }

    private static List<String> gets() {
        List<String> all = new ArrayList<>();
        for (int number = 0; number < 8; number++) {
            all.addAll(List.of("get(0, " + number + ")", "told(8)", "told(9)", "told(10)", "told(11)", "told(13)"));
        }
        all.add("get(2, 5)");
        all.add("get(3, 77)");
        for (int number = 0; number < 8; number++) {
            all.addAll(List.of("drop(0, " + number + ")", "looked()", "put(0, " + number + ", 1, 1, 1)", "looked()",
                "drop(0, " + number + ")"));
        }
        all.add("book(-1, 0, 0)");
        all.addAll(List.of("feed(103)", "feed(97)", "feed(49)", "trace()", "count(4)", "count(6)", "undo()",
            "looked()"));
        for (int number = 0; number < 8; number++) {
            all.addAll(List.of("get(0, " + number + ")", "drop(0, " + number + ")", "looked()"));
        }
        all.add("get(2, 5)");
        return all;
    }

    private static List<String> puts() {
        List<String> all = new ArrayList<>();
        for (int i = 0; i < 12; i++) {
            all.addAll(List.of("put(3, " + (50 + i) + ", 1, 1, 1)", "of(3, " + (50 + i) + ", 4)", "get(3, " + (50
                + i) + ")", "of(3, " + (50 + i) + ", 0)",
                "told(1)", "told(4)", "told(5)", "told(6)", "told(7)", "told(13)", "gone(0)"));
        }
        return all;
    }
}
