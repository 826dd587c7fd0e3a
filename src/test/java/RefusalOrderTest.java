/** Where a call's words name two refusals, the first that they name is the answer: each pair in a run of its own. */
final class RefusalOrderTest {
    private static final String FULL_BOOK = "book(0, 0, 0) = 1 | book(0, 0, 0) = 2 | book(0, 0, 0) = 3 | "
        + "book(0, 0, 0) = 4"
        + " | book(0, 0, 0) = 5 | book(0, 0, 0) = 6 | book(0, 0, 0) = 7 | book(0, 0, 0) = 8\n";
    private static final String SIX_TRACES = "trace(\"ga0\") = 0 | trace(\"ga0\") = 1 | trace(\"ga0\") = 2 | "
        + "trace(\"ga0\") = 3"
        + " | trace(\"ga0\") = 4 | trace(\"ga0\") = 5\n";

    private RefusalOrderTest() {
    }

    public static void main(String[] args) {
        things();
        traces();
        booksAndTapes();
        Script.end();
    }

    private static void things() {
        Script.play("2 NONE ahead of BAD", """
            set(4, -1) = NONE | set(4, 0) = NONE | set(4, 100) = NONE | set(-1, MIN) = NONE | set(-1, MAX) = NONE
            set(MAX, MAX) = NONE
            """);
        Script.play("4 NONE (space) ahead of BAD (weight)", "put(4, 0, 1, 0, 1) = NONE | put(-1, 0, 1, 10, 1) = NONE");
        Script.play("4 NONE (space) ahead of BAD (cost)", "put(4, 0, 1, 1, -1) = NONE | put(-1, 0, 1, 1, 100) = NONE");
        Script.play("4 NONE (number) ahead of BAD (weight)", """
            put(0, 100, 1, 0, 1) = NONE | put(0, -1, 1, 10, 1) = NONE
            """);
        Script.play("4 NONE (number) ahead of BAD (cost)", """
            put(0, 100, 1, 1, -1) = NONE | put(0, -1, 1, 1, 100) = NONE
            """);
        Script.play("4 NONE ahead of FULL", "set(0, 3) = 20 | put(4, 0, 1, 4, 1) = NONE | put(0, 100, 1, 9, 1) = NONE");
        Script.play("4 BAD (weight) ahead of FULL", """
            set(0, 3) = 20 | put(0, 0, 1, 10, 1) = BAD | put(0, 0, 1, MAX, 1) = BAD
            """);
        Script.play("4 BAD (cost) ahead of FULL", """
            set(0, 3) = 20 | put(0, 0, 1, 4, 100) = BAD | put(0, 0, 1, 9, -1) = BAD
            """);
        Script.play("4 FULL if weight and cost are as told", """
            set(0, 3) = 20 | put(0, 0, 1, 4, 99) = FULL | put(0, 0, 1, 9, 0) = FULL
            """);
        Script.play("7 NONE ahead of STATE", """
            pin(4, 0, true) = NONE | pin(0, 100, false) = NONE | pin(0, 99, false) = STATE
            """);
        Script.play("8 NONE (what) ahead of -5", "of(0, 0, 7) = NONE | of(0, 0, -1) = NONE");
        Script.play("8 NONE by key and what", "of(4, 0, 7) = NONE | of(0, -1, -1) = NONE");
        Script.play("9 NONE (where) ahead of -5", "key(5, 0) = NONE | key(0, MAX) = NONE | key(0, -1) = NONE");
        Script.play("9 NONE (k) ahead of -5", "key(1, -1) = NONE | key(4, MIN) = NONE");
        Script.play("10, 11 NONE ahead of -5", "gone(-1) = NONE | victim(-1) = NONE");
    }

    private static void traces() {
        StringBuilder hundred = new StringBuilder();
        for (int i = 1; i <= 100; i++) {
            hundred.append("feed(103) = ").append(i).append('\n');
        }
        Script.play("12 BAD ahead of FULL", hundred + "feed(-1) = BAD | feed(128) = BAD | feed(127) = FULL");
        Script.play("13 FULL ahead of a FAULT", SIX_TRACES + "trace(\"q\") = FULL | count(6) = 1");
        Script.play("15 NONE by trace and what", "trace(\"ga0\") = 0 | would(1, 6) = NONE | would(-1, -1) = NONE");
        Script.play("16 NONE ahead of BAD", """
            need(0, -1) = NONE | need(0, 21) = NONE | trace("ga0") = 0 | need(0, 21) = BAD | need(1, 21) = NONE
            need(-1, -1) = NONE
            """);
        Script.play("17 NO by all three", "odds(0, 21, 2) = NO | odds(-1, -1, -1) = NO");
        Script.play("18 NO (part), though there are none", "mean(1, 2) = NO | mean(0, 0) = NO | mean(3, -1) = NO");
    }

    private static void booksAndTapes() {
        Script.play("19 NONE (space) ahead of BAD", "book(4, 0, 5) = NONE | book(-2, 0, -1) = NONE");
        Script.play("19 NONE (number) ahead of BAD", "book(0, 100, 5) = NONE | book(0, -1, -1) = NONE");
        Script.play("19 NONE ahead of FULL", FULL_BOOK + "book(4, 0, 0) = NONE | book(0, 100, 0) = NONE");
        Script.play("19 BAD ahead of FULL", FULL_BOOK + """
            book(0, 0, 5) = BAD | book(0, 0, -1) = BAD | book(0, 0, 4) = FULL
            """);
        Script.play("19 space -1 ahead of all", FULL_BOOK + "book(-1, 100, 5) = 0");
        Script.play("21 NONE ahead of -5", "judge(6, 0) = NONE | judge(-1, 0) = NONE");
        Script.play("21 CAST ahead of -5", "tape(0, 2, 1) = 1 | judge(0, 0) = CAST");
        Script.play("21 CAST ahead of 100", """
            put(0, 0, 1, 1, 1) = 0 | tape(0, 2, 1) = 1 | judge(0, -1) = CAST | judge(0, 5) = CAST
            """);
        Script.play("25 NONE ahead of BAD (sort)", "tape(6, 5, 1) = NONE | tape(-1, -2, 1) = NONE");
        Script.play("25 NONE ahead of BAD (n)", "tape(6, 0, 61) = NONE");
        Script.play("25 NONE ahead of SIZE", "tape(6, 0, -1) = NONE | tape(-1, 4, MIN) = NONE");
        Script.play("25 NONE though it would hold nothing", "tape(6, -1, 0) = NONE | tape(-1, -1, 0) = NONE");
        Script.play("25 BAD (sort) ahead of SIZE", "tape(0, 5, -1) = BAD | tape(0, -2, MIN) = BAD");
        Script.play("25 SIZE if the sort is as told", "tape(0, 4, -1) = SIZE | tape(0, 0, MIN) = SIZE");
        Script.play("26 NONE ahead of NOTHING", "item(6, 0, 1) = NONE | item(-1, 0, 1) = NONE");
        Script.play("26 NONE ahead of PLACE", "item(6, -1, 1) = NONE | item(-1, 60, 1) = NONE");
        Script.play("26 NOTHING ahead of PLACE", "item(0, -1, 1) = NOTHING | item(0, 60, 1) = NOTHING");
        Script.play("28 NONE ahead of NOTHING", "shift(0, 0, 6, 0, 1) = NONE | shift(6, 0, 0, 0, 1) = NONE");
        Script.play("28 NONE ahead of CAST", """
            tape(0, 0, 1) = 1 | shift(0, 0, 6, 0, 1) = NONE | shift(-1, 0, 0, 0, 1) = NONE
            """);
        Script.play("28 NONE ahead of PLACE", """
            tape(0, 0, 1) = 1 | shift(0, 9, 6, 0, 1) = NONE | shift(-1, 0, 0, 0, -1) = NONE
            """);
        Script.play("28 NOTHING ahead of CAST", """
            tape(0, 0, 1) = 1 | shift(0, 0, 1, 0, 1) = NOTHING | shift(1, 0, 0, 0, 1) = NOTHING
            """);
        Script.play("28 NOTHING ahead of PLACE", """
            tape(0, 0, 1) = 1 | shift(0, -1, 1, 0, 1) = NOTHING | shift(1, 0, 0, 2, 1) = NOTHING
            shift(1, 0, 2, 0, -1) = NOTHING
            """);
        Script.play("28 CAST ahead of PLACE", """
            tape(0, 0, 1) = 1 | tape(1, 1, 1) = 1 | shift(0, -1, 1, 0, 1) = CAST | shift(0, 0, 1, 1, 1) = CAST
            shift(0, 0, 1, 0, -1) = CAST
            """);
        Script.play("28 PLACE if they are of the same sort", """
            tape(0, 1, 1) = 1 | tape(1, 1, 1) = 1 | shift(0, -1, 1, 0, 1) = PLACE | shift(0, 0, 1, 1, 1) = PLACE
            shift(0, 0, 1, 0, -1) = PLACE
            """);
    }
}
