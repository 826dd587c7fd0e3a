/** Bounds of keys and of promises 1 to 3 and 24, each in a run of its own: a new object, set, told, count. */
final class SettingBoundsTest {
    private static final String[] KEYS_INSIDE = {"0, 0", "0, 99", "3, 0", "3, 99", "1, 50"};
    private static final String[] KEYS_OUTSIDE = {"-1, 0", "4, 0", "0, -1", "0, 100", "-1, 99", "4, 99", "3, -1",
        "3, 100", "-1, -1", "4, 100", "MIN, 0", "MAX, 0", "0, MIN", "0, MAX", "MIN, MIN", "MAX, MAX", "-2, 0",
        // 100 times these is a key again by wrap-around.
        "42949673, 0", "-42949672, 0", "85899346, 0"};

    private SettingBoundsTest() {
    }

    public static void main(String[] args) {
        keys();
        aliases();
        newObject();
        set();
        border();
        whatSetTrims();
        told();
        count();
        Script.end();
    }

    /** A KEY: a SPACE (0 .. 3) and a number (0 .. 99). */
    private static void keys() {
        keyed("put(%s, 7, 1, 1)", "0", "NONE");
        keyed("get(%s)", "NO", "NO");
        keyed("drop(%s)", "0", "NONE");
        keyed("pin(%s, true)", "STATE", "NONE");
        keyed("pin(%s, false)", "STATE", "NONE");
        keyed("book(%s, 0)", "1", "NONE");
        for (int what = 0; what < 7; what++) {
            keyed("of(%s, " + what + ")", what == 0 ? "0" : "-5", "NONE");
        }
        for (String key : KEYS_INSIDE) {
            Script.play("5 no thing there is MISSED", "get(" + key + """
                ) = NO | told(9) = 1 | told(10) = 0 | told(8) = 0
                """);
        }
        for (String key : KEYS_OUTSIDE) {
            Script.play("5 no such KEY is not MISSED", "get(" + key + """
                ) = NO | told(9) = 0 | told(10) = 0 | told(8) = 0
                """);
        }
    }

    private static void keyed(String call, String inside, String outside) {
        for (String key : KEYS_INSIDE) {
            Script.play("a key inside", String.format(call, key) + " = " + inside);
        }
        for (String key : KEYS_OUTSIDE) {
            boolean empties = call.startsWith("book") && key.startsWith("-1,");
            Script.play("a key outside", String.format(call, key) + " = " + (empties ? "0" : outside));
        }
    }

    /** No number outside its space is a number of the next one. */
    private static void aliases() {
        String[] there = {"1, 0", "0, 99", "3, 99", "2, 0"};
        String[] others = {"0, 100", "1, -1", "4, -1", "1, 100"};
        for (int i = 0; i < there.length; i++) {
            Script.play("a key is told by both its numbers", String.format("""
                put(%1$s, 5, 1, 1) = 0
                get(%2$s) = NO
                of(%2$s, 0) = NONE
                of(%2$s, 1) = NONE
                pin(%2$s, true) = NONE
                drop(%2$s) = NONE
                put(%2$s, 6, 1, 1) = NONE
                of(%1$s, 0) = 1
                of(%1$s, 3) = 0
                of(%1$s, 5) = 0
                get(%1$s) = 5
                """, there[i], others[i]));
        }
        Script.play("a KEY is answered as 100 times SPACE and the number: the least", """
            put(0, 0, 1, 1, 1) = 0 | key(1, 0) = 0
            """);
        Script.play("a KEY is answered so: the greatest", """
            put(3, 99, 1, 1, 1) = 0 | key(1, 0) = 399 | victim(0) = 399
            """);
        Script.play("a KEY is answered so: one of each space", """
            put(0, 9, 1, 1, 1) = 0 | put(1, 9, 1, 1, 1) = 0 | put(2, 9, 1, 1, 1) = 0 | put(3, 9, 1, 1, 1) = 0
            key(1, 0) = 9 | key(1, 1) = 109 | key(1, 2) = 209 | key(1, 3) = 309
            """);
    }

    private static void newObject() {
        int[] told = {20, 10, 2, 1, 0, 0, 0, 0, 0, 0, 0, 0, 0, 0};
        for (int what = 0; what < told.length; what++) {
            Script.play("1 told at first", "told(" + what + ") = " + told[what]);
        }
        for (int what = 0; what < 7; what++) {
            Script.play("1 none of these at first", "count(" + what + ") = 0");
        }
        for (int where = 1; where < 5; where++) {
            Script.play("1 nothing there at first", "key(" + where + ", 0) = -5 | key(" + where + ", MAX) = -5");
        }
        for (int tape = 0; tape < 6; tape++) {
            Script.play("1 tapes hold nothing at first", "item(" + tape + ", 0, 0) = NOTHING | read(" + tape + """
                , 0) = NO
                """);
        }
        Script.play("1 nothing went at first", "gone(0) = -5");
        Script.play("1 there is none that would go at first", "victim(0) = -5");
        Script.play("1 no mean at first", "mean(1, 0) = NO | mean(1, 1) = NO | mean(2, 0) = NO | mean(2, 1) = NO");
        Script.play("1 no trace at first", """
            run(0) = NONE | would(0, 0) = NONE | need(0, 0) = NONE | odds(0, 0, 0) = NO
            """);
        Script.play("1 no image at first", "undo() = STATE");
        Script.play("1 the text is empty at first", "trace() = -10");
    }

    /** CAPACITY 1 .. 99, RISE 1 .. 9, LIVES 0 .. 9. */
    private static void set() {
        int[] least = {1, 0, 1, 0};
        int[] most = {99, 20, 9, 9};
        int[] first = {20, 10, 2, 1};
        for (int what = 0; what < 4; what++) {
            for (int n : new int[] {least[what], most[what], first[what]}) {
                Script.play("2 inside the bounds: what it was", "set(" + what + ", " + n + ") = " + first[what]
                    + " | told(" + what + ") = " + n + " | set(" + what + ", " + n + ") = " + n);
            }
            for (String n : new String[] {"" + (least[what] - 1), "" + (most[what] + 1), "-1", "MIN", "MAX", "-99",
                "400"}) {
                Script.play("2 outside the bounds: BAD", "set(" + what + ", " + n + ") = BAD | told(" + what + ") = "
                    + first[what] + " | told(0) = 20 | told(1) = 10");
            }
        }
        for (String what : new String[] {"-1", "4", "5", "MIN", "MAX", "-4", "13"}) {
            Script.play("2 NONE: what", "set(" + what + """
                , 1) = NONE | told(0) = 20 | told(1) = 10 | told(2) = 2 | told(3) = 1
                """);
        }
        Script.play("2 each what is one of its own", """
            set(0, 30) = 20 | set(1, 5) = 10 | set(2, 3) = 2 | set(3, 4) = 1
            told(0) = 30 | told(1) = 5 | told(2) = 3 | told(3) = 4
            set(0, 31) = 30 | set(1, 6) = 5 | set(2, 4) = 3 | set(3, 5) = 4
            """);
    }

    /** BORDER 0 .. CAPACITY. */
    private static void border() {
        Script.play("2 BORDER 0", "set(1, 0) = 10 | told(1) = 0");
        Script.play("2 BORDER below 0", "set(1, -1) = BAD | told(1) = 10");
        Script.play("2 BORDER as much as CAPACITY, 99", "set(0, 99) = 20 | set(1, 99) = 10 | told(1) = 99");
        Script.play("2 BORDER above CAPACITY, 99", "set(0, 99) = 20 | set(1, 100) = BAD | told(1) = 10");
        Script.play("2 BORDER as much as CAPACITY, 1", "set(0, 1) = 20 | set(1, 0) = 1 | set(1, 1) = 0 | told(1) = 1");
        Script.play("2 BORDER above CAPACITY, 1", "set(0, 1) = 20 | set(1, 2) = BAD | told(1) = 1");
        Script.play("2 BORDER above a CAPACITY that is less now", """
            set(1, 20) = 10 | set(0, 15) = 20 | set(1, 16) = BAD | set(1, 15) = 15
            """);
        Script.play("2 BORDER is at most CAPACITY then: 1 below it", "set(0, 9) = 20 | told(1) = 9");
        Script.play("2 BORDER is at most CAPACITY then: as much", "set(0, 10) = 20 | told(1) = 10");
        Script.play("2 BORDER is at most CAPACITY then: less", "set(0, 11) = 20 | told(1) = 10");
        Script.play("2 BORDER is at most CAPACITY then: the least", "set(0, 1) = 20 | told(1) = 1");
        Script.play("2 BORDER 0 stays under any CAPACITY", """
            set(1, 0) = 10 | set(0, 1) = 20 | told(1) = 0 | set(0, 99) = 1 | told(1) = 0
            """);
        Script.play("2 BORDER comes back by no greater CAPACITY", "set(0, 3) = 20 | set(0, 99) = 3 | told(1) = 3");
        Script.play("2 a refused CAPACITY leaves BORDER", """
            set(0, 0) = BAD | told(1) = 10 | set(0, -5) = BAD | told(1) = 10
            """);
    }

    /** Here a thing weighs 9 by CAPACITY 5, and the next TRIM makes it go. */
    private static void whatSetTrims() {
        String due = "set(3, 0) = 1 | put(0, 0, 1, 9, 1) = 0 | pin(0, 0, true) = 0 | set(0, 5) = 20 | "
            + "pin(0, 0, false) = 1\n";
        Script.play("2 by 0 TRIM then, also by the same CAPACITY", due + "set(0, 5) = 5 | told(13) = 1 | told(4) = 0");
        Script.play("2 by 0 TRIM then, also by a greater CAPACITY", due + "set(0, 8) = 5 | told(13) = 1");
        Script.play("2 by 0 TRIM then: enough CAPACITY, none goes", due + "set(0, 9) = 5 | told(13) = 0 | told(4) = 9");
        Script.play("2 by 1 TRIM then, also by the same BORDER", due + "set(1, 5) = 5 | told(13) = 1 | told(4) = 0");
        Script.play("2 by 1 TRIM then, also by another BORDER", due + "set(1, 0) = 5 | told(13) = 1 | told(4) = 0");
        Script.play("2 by 2 no TRIM", due + "set(2, 3) = 2 | told(13) = 0 | told(4) = 9");
        Script.play("2 by 3 no TRIM", due + "set(3, 3) = 0 | told(13) = 0 | told(4) = 9");
        Script.play("2 by what is refused no TRIM", due + """
            set(0, 0) = BAD | set(0, 100) = BAD | set(1, -1) = BAD | set(1, 6) = BAD | set(4, 1) = NONE
            set(-1, 1) = NONE
            told(13) = 0 | told(4) = 9
            """);
        Script.play("2 a lower RISE lifts none by itself", """
            set(2, 9) = 2 | put(0, 0, 1, 1, 1) = 0 | get(0, 0) = 1 | get(0, 0) = 1 | set(2, 1) = 9
            of(0, 0, 0) = 1 | of(0, 0, 3) = 2
            """);
        Script.play("2 other LIVES give none CHANCES that is there", """
            put(0, 0, 1, 1, 1) = 0 | set(3, 9) = 1 | of(0, 0, 4) = 1
            """);
    }

    private static void told() {
        for (String what : new String[] {"-1", "14", "15", "MIN", "MAX", "-14"}) {
            Script.play("3 NONE", "told(" + what + ") = NONE");
        }
        String ghosts = """
            set(2, 1) = 2 | set(3, 0) = 1
            put(0, 0, 1, 9, 2) = 0 | get(0, 0) = 1 | put(0, 1, 1, 9, 3) = 0 | pin(0, 1, true) = 0 | set(0, 10) = 20
            pin(0, 1, false) = 1 | put(0, 2, 1, 2, 5) = 0 | put(0, 3, 1, 1, 7) = 0 | get(0, 3) = 1
            put(0, 4, 1, 6, 11) = 0
            get(0, 0) = NO | get(0, 1) = NO | get(2, 2) = NO
            """;
        int[] due = {10, 10, 1, 0, 8, 1, 9, 9, 2, 3, 2, 9, 28, 2};
        for (int what = 0; what < due.length; what++) {
            Script.play("3 what " + what, ghosts + "told(" + what + ") = " + due[what]);
        }
        Script.play("3 a weight is of all that is in it, together", """
            told(4) = 0 | put(0, 0, 1, 9, 1) = 0 | told(4) = 9 | put(0, 1, 1, 2, 1) = 0 | told(4) = 11
            put(0, 0, 1, 1, 1) = 2 | told(4) = 3 | drop(0, 1) = 1 | told(4) = 1 | drop(0, 0) = 1 | told(4) = 0
            """);
        Script.play("3 so of PROTECTED", """
            set(2, 1) = 2 | put(0, 0, 1, 5, 1) = 0 | get(0, 0) = 1 | told(5) = 5 | put(0, 1, 1, 2, 1) = 0
            get(0, 1) = 1
            told(5) = 7 | put(0, 0, 1, 8, 1) = 2 | told(5) = 10 | drop(0, 1) = 2 | told(5) = 8 | drop(0, 0) = 2
            told(5) = 0
            told(4) = 0
            """);
    }

    private static void count() {
        for (String what : new String[] {"-1", "7", "8", "MIN", "MAX", "-7"}) {
            Script.play("24 BAD", "count(" + what + ") = BAD");
        }
        String full = """
            set(2, 1) = 2 | set(3, 0) = 1
            put(0, 0, 1, 9, 1) = 0 | get(0, 0) = 1 | put(0, 1, 1, 9, 1) = 0 | pin(0, 1, true) = 0 | set(0, 10) = 20
            put(0, 2, 1, 1, 1) = 0 | get(0, 2) = 1 | put(0, 3, 1, 1, 1) = 0 | put(0, 4, 1, 2, 1) = 0
            book(0, 0, 0) = 1 | book(0, 0, 0) = 2 | book(0, 0, 0) = 3 | trace("ga0") = 0 | trace("ga0") = 1
            trace("ga0") = 2 | trace("ga0") = 3 | feed(1) = 1 | feed(1) = 2 | feed(1) = 3 | feed(1) = 4 | feed(1) = 5
            """;
        int[] due = {1, 1, 2, 1, 4, 3, 5};
        for (int what = 0; what < due.length; what++) {
            Script.play("24 what " + what, full + "count(" + what + ") = " + due[what]);
        }
        Script.play("24 TRACES, 6 at most", """
            trace("ga0") = 0 | trace("ga0") = 1 | trace("ga0") = 2 | trace("ga0") = 3 | trace("ga0") = 4
            trace("ga0") = 5
            count(4) = 6 | trace("ga0") = FULL | count(4) = 6
            """);
        Script.play("24 no TRACE by a FAULT", "trace(\"ga0;\") = -14 | count(4) = 0 | count(6) = 0");
    }
}
