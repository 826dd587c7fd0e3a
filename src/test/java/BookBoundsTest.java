/** Bounds that promises 19 to 23 name, each in a run of its own: book, looked, judge, image, undo. */
final class BookBoundsTest {
    /** 0, 0 is a ghost of protected, 0, 1 is pinned on probation, 0, 2 is a ghost of probation, 0, 3 is protected. */
    private static final String ALL_PLACES = """
        set(2, 1) = 2 | put(0, 0, 1, 9, 1) = 0 | get(0, 0) = 1 | put(0, 1, 1, 9, 1) = 0 | pin(0, 1, true) = 0
        set(0, 10) = 20 | set(3, 0) = 1 | put(0, 2, 1, 2, 1) = 0 | put(0, 3, 1, 1, 1) = 0 | get(0, 3) = 1
        """;

    private static final String PROBATION = "put(3, 99, 1, 1, 1) = 0 | put(0, 7, 1, 1, 1) = 0 | "
        + "put(1, 0, 1, 1, 1) = 0\n";

    private BookBoundsTest() {
    }

    public static void main(String[] args) {
        book();
        looked();
        judgeRefused();
        judgeEmpty();
        judgeEnds();
        judgeOtherwise();
        image();
        undo();
        undone();
        notUndone();
        Script.end();
    }

    /** KEYS and where each is (8 rows at most). */
    private static void book() {
        for (String where : new String[] {"0", "1", "2", "3", "4"}) {
            Script.play("19 where inside", "book(0, 0, " + where + ") = 1 | count(5) = 1");
        }
        for (String where : new String[] {"-1", "5", "6", "MIN", "MAX"}) {
            Script.play("19 BAD: where", "book(0, 0, " + where + ") = BAD | count(5) = 0 | book(4, 0, " + where
                + ") = NONE | book(-1, 0, " + where + ") = 0");
        }
        String seven = "book(0, 0, 0) = 1 | book(0, 1, 0) = 2 | book(0, 2, 0) = 3 | book(0, 3, 0) = 4 | "
            + "book(0, 4, 0) = 5 | book(0, 5, 0) = 6 | book(0, 6, 0) = 7\n";
        Script.play("19 the eighth row", seven + "book(0, 7, 0) = 8 | count(5) = 8");
        Script.play("19 FULL: the ninth row", seven + """
            book(0, 7, 0) = 8 | book(0, 8, 0) = FULL | book(0, 0, 0) = FULL | count(5) = 8
            """);
        Script.play("19 the eighth is looked at, the ninth isn't", seven + """
            book(0, 7, 1) = 8 | book(0, 8, 1) = FULL | looked() = 7 | put(0, 7, 1, 1, 1) = 0 | looked() = -5
            """);
        Script.play("19 BAD ahead of FULL", seven + "book(0, 7, 0) = 8 | book(0, 8, 5) = BAD | book(0, 8, -1) = BAD");
        Script.play("19 NONE ahead of FULL and BAD", seven + """
            book(0, 7, 0) = 8 | book(4, 0, 0) = NONE | book(-2, 0, 5) = NONE | book(0, 100, -1) = NONE
            """);
        Script.play("19 space -1: it is empty then", seven + """
            book(-1, 0, 0) = 0 | count(5) = 0 | looked() = -5 | book(0, 9, 1) = 1 | looked() = 0
            """);
        Script.play("19 space -1: also if it is full", seven + """
            book(0, 7, 1) = 8 | book(-1, 0, 0) = 0 | count(5) = 0 | looked() = -5
            """);
        Script.play("19 space -1: also if it is empty", "book(-1, 0, 0) = 0 | count(5) = 0");
        for (String rest : new String[] {"MIN, MAX", "MAX, MIN", "-1, -1", "100, 5", "99, 4"}) {
            Script.play("19 space -1: whatever the rest is", "book(0, 0, 1) = 1 | book(-1, " + rest + """
                ) = 0 | count(5) = 0
                """);
        }
        Script.play("19 space -2 empties nothing", "book(0, 0, 1) = 1 | book(-2, 0, 0) = NONE | count(5) = 1");
        Script.play("19 the same row twice", "book(0, 0, 1) = 1 | book(0, 0, 1) = 2 | count(5) = 2");
        Script.play("19 nothing is under the KEY by it", "book(0, 0, 1) = 1 | of(0, 0, 0) = 0");
    }

    /** The number (from 0) of the first of these rows by which it is otherwise now (-5: none). */
    private static void looked() {
        Script.play("20 -5: no rows", "looked() = -5");
        Script.play("20 -5: none is otherwise", "book(0, 0, 0) = 1 | book(3, 99, 0) = 2 | looked() = -5");
        Script.play("20 number 0", "book(0, 0, 1) = 1 | looked() = 0");
        Script.play("20 the last one", "book(0, 0, 0) = 1 | book(0, 1, 0) = 2 | book(0, 2, 1) = 3 | looked() = 2");
        Script.play("20 the first of two", "book(0, 0, 0) = 1 | book(0, 1, 2) = 2 | book(0, 2, 1) = 3 | looked() = 1");
        for (int key = 0; key < 5; key++) {
            int[] wheres = {4, 1, 3, 2, 0};
            for (int where = 0; where < 5; where++) {
                Script.play("20 by each place", ALL_PLACES + "book(0, " + key + ", " + where + ") = 1 | looked() = "
                    + (where == wheres[key] ? -5 : 0));
            }
        }
        Script.play("20 as it is now", """
            book(0, 0, 0) = 1 | looked() = -5 | put(0, 0, 1, 1, 1) = 0 | looked() = 0 | drop(0, 0) = 1 | looked() = -5
            """);
        Script.play("20 by the one KEY both rows can't hold", """
            book(0, 0, 0) = 1 | book(0, 0, 1) = 2 | looked() = 1 | put(0, 0, 1, 1, 1) = 0 | looked() = 0
            """);
    }

    private static void judgeRefused() {
        for (String tape : new String[] {"-1", "6", "7", "MIN", "MAX"}) {
            Script.play("21 NONE: tape", "judge(" + tape + ", 0) = NONE | judge(" + tape
                + ", -1) = NONE | put(0, 0, 1, 1, 1) = 0 | judge(" + tape + ", 0) = NONE");
        }
        for (int tape = 0; tape < 6; tape++) {
            Script.play("21 each tape", "tape(" + tape + ", 1, 1) = 1 | put(0, 0, 1, 1, 1) = 0 | judge(" + tape + """
                , 0) = -5
                """);
        }
        for (String sort : new String[] {"0", "2", "3", "4"}) {
            Script.play("21 CAST: no row of shorts", PROBATION + "tape(0, " + sort + """
                , 9) = 1 | judge(0, 0) = CAST | judge(0, 9) = CAST
                """);
            Script.play("21 CAST whatever the place is", PROBATION + "tape(0, " + sort + """
                , 9) = 1 | judge(0, -1) = CAST | judge(0, MIN) = CAST | judge(0, MAX) = CAST
                """);
            Script.play("21 CAST, a row of none", PROBATION + "tape(0, " + sort + ", 0) = 1 | judge(0, 0) = CAST");
            Script.play("21 CAST though PROBATION is empty", "tape(0, " + sort + """
                , 9) = 1 | judge(0, 0) = CAST | judge(0, -1) = CAST
                """);
        }
    }

    /** -5: it is empty (wherever the place is, also if the TAPE holds nothing). */
    private static void judgeEmpty() {
        for (String place : new String[] {"0", "1", "2", "3", "-1", "60", "MIN", "MAX"}) {
            Script.play("21 PROBATION is empty, the TAPE holds nothing", "judge(0, " + place + ") = -5");
            Script.play("21 PROBATION is empty, a row", "tape(0, 1, 2) = 1 | judge(0, " + place + ") = -5");
            Script.play("21 PROBATION is empty, a row of none", "tape(0, 1, 0) = 1 | judge(0, " + place + ") = -5");
            Script.play("21 PROBATION is empty, one is protected", "set(2, 1) = 2 | put(0, 0, 1, 1, 1) = 0 | "
                + "get(0, 0) = 1 | tape(0, 1, 2) = 1 | judge(0, " + place + ") = -5 | judge(1, " + place + ") = -5");
            Script.play("21 PROBATION is empty again", "put(0, 0, 1, 1, 1) = 0 | drop(0, 0) = 1 | judge(0, " + place
                + ") = -5");
            Script.play("21 the TAPE holds nothing: 100", PROBATION + "judge(0, " + place + ") = 100");
            Script.play("21 the TAPE holds nothing any more: 100", PROBATION
                + "tape(0, 2, 5) = 1 | tape(0, -1, 0) = 1 | judge(0, " + place + ") = 100");
            Script.play("21 a row of none: 100", PROBATION + "tape(0, 1, 0) = 1 | judge(0, " + place + ") = 100");
        }
    }

    /** 100 and how many were looked at, if the row ends ahead of that (or the place is below 0). */
    private static void judgeEnds() {
        String right = "item(0, 0, 399) = 1 | item(0, 1, 7) = 1\n";
        Script.play("21 the row is as long as PROBATION: -5", PROBATION + "tape(0, 1, 3) = 1\n" + right + """
            item(0, 2, 100) = 1 | judge(0, 0) = -5
            """);
        Script.play("21 the row is longer: -5", PROBATION + "tape(0, 1, 4) = 1\n" + right + """
            item(0, 2, 100) = 1 | item(0, 3, 55) = 1 | judge(0, 0) = -5
            """);
        Script.play("21 the row ends 1 ahead: 102", PROBATION + "tape(0, 1, 2) = 1\n" + right + "judge(0, 0) = 102");
        Script.play("21 the row ends 2 ahead: 101", PROBATION + """
            tape(0, 1, 1) = 1 | item(0, 0, 399) = 1 | judge(0, 0) = 101
            """);
        Script.play("21 the place is the last one: 101", PROBATION + """
            tape(0, 1, 5) = 1 | item(0, 4, 399) = 1 | judge(0, 4) = 101
            """);
        Script.play("21 the place is the row's end: 100", PROBATION + "tape(0, 1, 5) = 1 | judge(0, 5) = 100");
        Script.play("21 the place is behind the row's end: 100", PROBATION + """
            tape(0, 1, 5) = 1 | judge(0, 6) = 100 | judge(0, 60) = 100 | judge(0, MAX) = 100
            """);
        Script.play("21 the place is below 0: 100", PROBATION + "tape(0, 1, 5) = 1\n" + right + """
            item(0, 2, 100) = 1 | judge(0, 0) = -5 | judge(0, -1) = 100 | judge(0, -5) = 100 | judge(0, MIN) = 100
            """);
        Script.play("21 from a place on: -5", PROBATION + """
            tape(0, 1, 5) = 1 | item(0, 2, 399) = 1 | item(0, 3, 7) = 1 | item(0, 4, 100) = 1 | judge(0, 2) = -5
            """);
        Script.play("21 from a place on, up to the end of 60", PROBATION + """
            tape(0, 1, 60) = 1 | item(0, 57, 399) = 1 | item(0, 58, 7) = 1 | item(0, 59, 100) = 1 | judge(0, 57) = -5
            judge(0, 59) = 0 | judge(0, 60) = 100
            """);
        StringBuilder many = new StringBuilder("set(0, 99) = 20 | tape(0, 1, 60) = 1\n");
        for (int i = 0; i < 60; i++) {
            many.append("put(2, ").append(i).append(", 1, 1, 1) = 0 | item(0, ").append(i).append(", ").append(200
                + i).append(") = 1\n");
        }
        Script.play("21 60 and a row of 60: -5", many + "judge(0, 0) = -5 | judge(0, 1) = 0");
        Script.play("21 61 and a row of 60: 160", many + "put(0, 0, 1, 1, 1) = 0 | judge(0, 0) = 160");
        Script.play("21 60 by which the last is otherwise: 59", many + "item(0, 59, 0) = 1 | judge(0, 0) = 59");
    }

    /** The first that is otherwise (counted from 0 from that place on). */
    private static void judgeOtherwise() {
        String row = PROBATION + "tape(0, 1, 6) = 1 | item(0, 2, 399) = 1 | item(0, 3, 7) = 1 | item(0, 4, 100) = 1\n";
        Script.play("21 the first is otherwise: 0", row + "item(0, 2, 398) = 1 | judge(0, 2) = 0");
        Script.play("21 the second is otherwise: 1", row + "item(0, 3, 107) = 1 | judge(0, 2) = 1");
        Script.play("21 the last is otherwise: 2", row + "item(0, 4, 101) = 1 | judge(0, 2) = 2");
        Script.play("21 of two the first", row + "item(0, 4, 0) = 1 | item(0, 3, 0) = 1 | judge(0, 2) = 1");
        Script.play("21 otherwise ahead of the row's end", row + "item(0, 5, 1) = 1 | judge(0, 5) = 0");
        Script.play("21 what is ahead of the place doesn't count", row + """
            item(0, 0, -1) = 1 | item(0, 1, -1) = 1 | judge(0, 2) = -5
            """);
        Script.play("21 the oldest first, as it is now", row + """
            judge(0, 2) = -5 | get(3, 99) = 1 | judge(0, 2) = 0 | judge(0, 3) = 2
            """);
        Script.play("21 protected ones aren't judged", "set(2, 1) = 2\n" + row + """
            get(0, 7) = 1 | judge(0, 2) = 1 | item(0, 3, 100) = 1 | judge(0, 2) = -5
            """);
        Script.play("21 an item below 0 is otherwise", row + "item(0, 2, -1) = 1 | judge(0, 2) = 0");
        Script.play("21 the KEY 0", "put(0, 0, 1, 1, 1) = 0 | tape(0, 1, 1) = 1 | judge(0, 0) = -5");
        Script.play("21 it only asks", row + """
            judge(0, 2) = -5 | of(3, 99, 3) = 0 | key(1, 0) = 399 | read(0, 2) = 399 | told(9) = 0
            """);
    }

    /** How many THINGS there are. STATE: there is none. */
    private static void image() {
        Script.play("22 no THINGS: 0", "image() = 0");
        Script.play("22 of both QUEUES, no GHOSTS", ALL_PLACES + """
            image() = 2 | count(0) = 1 | count(1) = 1 | count(2) = 1 | count(3) = 1
            """);
        Script.play("22 99 THINGS", "set(0, 99) = 20\n" + fill(99) + "image() = 99 | undo() = 99");
        Script.play("22 it is taken anew", """
            put(0, 0, 1, 1, 1) = 0 | image() = 1 | put(0, 1, 1, 1, 1) = 0 | image() = 2 | drop(0, 0) = 1
            drop(0, 1) = 1 | undo() = 2 | of(0, 1, 0) = 1
            """);
        Script.play("22 nothing is otherwise by it", ALL_PLACES + """
            image() = 2 | told(0) = 10 | told(13) = 2 | of(0, 0, 0) = 4 | key(1, 0) = 1 | key(2, 0) = 3
            """);
        Script.play("23 STATE: there is none", """
            undo() = STATE | put(0, 0, 1, 1, 1) = 0 | undo() = STATE | of(0, 0, 0) = 1
            """);
        Script.play("23 of nothing", """
            image() = 0 | put(0, 0, 1, 1, 1) = 0 | undo() = 0 | of(0, 0, 0) = 0 | told(12) = 0 | count(0) = 0
            """);
        Script.play("23 twice", """
            put(0, 0, 1, 1, 1) = 0 | image() = 1 | drop(0, 0) = 1 | undo() = 1 | drop(0, 0) = 1 | undo() = 1
            of(0, 0, 0) = 1
            """);
        Script.play("23 how many THINGS then, not ahead", """
            put(0, 0, 1, 1, 1) = 0 | image() = 1 | put(0, 1, 1, 1, 1) = 0 | put(0, 2, 1, 1, 1) = 0 | undo() = 1
            """);
        Script.play("23 what comes then is not in THE IMAGE", """
            put(0, 0, 1, 1, 1) = 0 | image() = 1 | undo() = 1 | put(0, 1, 1, 1, 1) = 0 | get(0, 0) = 1 | undo() = 1
            of(0, 1, 0) = 0 | of(0, 0, 3) = 0
            """);
        Script.play("23 no TRIM by it", """
            set(3, 0) = 1 | put(0, 0, 1, 9, 1) = 0 | pin(0, 0, true) = 0 | set(0, 5) = 20 | pin(0, 0, false) = 1
            image() = 1 | undo() = 1 | told(13) = 0 | told(4) = 9
            """);
    }

    private static String fill(int things) {
        StringBuilder lines = new StringBuilder();
        for (int i = 0; i < things; i++) {
            lines.append("put(1, ").append(i).append(", 1, 1, 1) = 0\n");
        }
        return lines.toString();
    }

    /** All is as THE IMAGE: one thing after another. */
    private static void undo() {
        back("CAPACITY", "set(0, 15) = 20 | image() = 0 | set(0, 30) = 15", 0, "told(0) = 15");
        back("BORDER", "set(1, 4) = 10 | image() = 0 | set(1, 20) = 4", 0, "told(1) = 4");
        back("RISE", "set(2, 3) = 2 | image() = 0 | set(2, 9) = 3", 0, "told(2) = 3");
        back("LIVES", "set(3, 3) = 1 | image() = 0 | set(3, 9) = 3", 0,
            "told(3) = 3 | put(0, 0, 1, 1, 1) = 0 | of(0, 0, 4) = 3");
        back("a THING that was dropped, with its VALUE", "put(0, 0, MIN, 9, 99) = 0 | image() = 1 | drop(0, 0) = 1",
            1, "of(0, 0, 0) = 1 | of(0, 0, 1) = 9 | of(0, 0, 2) = 99 | of(0, 0, 4) = 1 | get(0, 0) = MIN");
        back("a THING that came", "image() = 0 | put(0, 0, 1, 1, 1) = 0", 0,
            "of(0, 0, 0) = 0 | count(0) = 0 | told(4) = 0 | key(1, 0) = -5");
        back("VALUE, WEIGHT, COST", "put(0, 0, 5, 6, 7) = 0 | image() = 1 | put(0, 0, 8, 9, 10) = 2", 1,
            "of(0, 0, 1) = 6 | of(0, 0, 2) = 7 | told(4) = 6 | get(0, 0) = 5");
        back("HITS", "put(0, 0, 5, 6, 7) = 0 | image() = 1 | get(0, 0) = 5", 1, "of(0, 0, 3) = 0");
        back("CHANCES", "set(0, 2) = 20 | put(0, 0, 1, 1, 1) = 0 | set(3, 0) = 1 | image() = 1 | "
            + "put(0, 1, 1, 1, 1) = 0 | put(0, 2, 1, 1, 1) = 0 | of(0, 0, 4) = 0", 1, "of(0, 0, 4) = 1");
        back("PINNED", "put(0, 0, 1, 1, 1) = 0 | pin(0, 0, true) = 0 | image() = 1 | pin(0, 0, false) = 1", 1,
            "of(0, 0, 5) = 1");
        back("PINNED no more", "put(0, 0, 1, 1, 1) = 0 | image() = 1 | pin(0, 0, true) = 0", 1, "of(0, 0, 5) = 0");
        back("the QUEUE", "set(2, 1) = 2 | put(0, 0, 1, 2, 1) = 0 | image() = 1 | get(0, 0) = 1", 1,
            "of(0, 0, 0) = 1 | told(4) = 2 | told(5) = 0");
        back("the places", "put(0, 0, 1, 1, 1) = 0 | put(0, 1, 1, 1, 1) = 0 | put(0, 2, 1, 1, 1) = 0 | "
            + "image() = 3 | get(0, 1) = 1 | drop(0, 0) = 1", 3, "key(1, 0) = 0 | key(1, 1) = 1 | key(1, 2) = 2 | "
            + "key(1, 3) = -5");
    }

    private static void undone() {
        back("GHOSTS", ALL_PLACES + "image() = 2 | drop(0, 0) = 4 | drop(0, 2) = 3", 2,
            "of(0, 0, 0) = 4 | of(0, 2, 0) = 3 | told(6) = 2 | told(7) = 9 | key(3, 0) = 2 | key(4, 0) = 0");
        back("a KEY that became a GHOST", "set(3, 0) = 1 | put(0, 0, 1, 2, 1) = 0 | put(0, 1, 1, 2, 1) = 0 | "
            + "image() = 2 | set(0, 2) = 20 | of(0, 0, 0) = 3", 2, "of(0, 0, 0) = 1 | count(2) = 0 | told(6) = 0");
        back("HAD and SAVED", "put(0, 0, 1, 1, 7) = 0 | get(0, 0) = 1 | image() = 1 | get(0, 0) = 1", 1,
            "told(8) = 1 | told(11) = 7");
        back("MISSED and HAUNTED", ALL_PLACES + "get(0, 0) = NO | get(1, 1) = NO | image() = 2 | get(0, 0) = NO", 2,
            "told(9) = 2 | told(10) = 1");
        back("PAID", "put(0, 0, 1, 1, 7) = 0 | image() = 1 | put(0, 1, 1, 1, 9) = 0", 1, "told(12) = 7");
        back("GONE", "set(3, 0) = 1 | set(0, 1) = 20 | put(0, 0, 1, 1, 1) = 0 | put(0, 1, 1, 1, 1) = 0 | "
            + "image() = 1 | put(0, 2, 1, 1, 1) = 0", 1, "gone(0) = 0 | gone(1) = -5 | told(13) = 1");
        back("GONE, more than 20 since", "set(3, 0) = 1 | set(0, 1) = 20 | put(0, 0, 1, 1, 1) = 0 | "
            + "put(0, 1, 1, 1, 1) = 0 | image() = 1\n" + fill(50), 1, "gone(0) = 0 | gone(1) = -5 | told(13) = 1");
        back("GONE, more than 400 since", "set(3, 0) = 1 | set(0, 1) = 20\n" + fill(30) + "image() = 1\n"
            + "trace(\"" + "pc1=1;pc2=1;pc3=1;pc4=1;pc5=1;pc6=1;pc7=1;pc8=1;"
            + "pd1=1;pd2=1;pd3=1;pd4=1;pd5=1;pd6=1;pd7=1\") = 0\n"
            + "run(0) = 0\n".repeat(54) + "told(13) = 839", 1, "gone(0) = 128 | gone(19) = 109 | gone(20) = -5 | "
            + "told(13) = 29");
        back("GONE, 20 of more", "set(3, 0) = 1 | set(0, 1) = 20\n" + fill(30) + "image() = 1\n"
            + fill(45).replace("put(1, ", "put(2, "), 1, "gone(0) = 128 | gone(19) = 109 | gone(20) = -5 | "
            + "told(13) = 29");
        back("the BOOK's rows", "book(0, 0, 1) = 1 | book(0, 1, 1) = 2 | image() = 0 | book(-1, 0, 0) = 0 | "
            + "book(0, 5, 0) = 1", 0, "count(5) = 2 | looked() = 0 | put(0, 0, 1, 1, 1) = 0 | looked() = 1 | "
            + "put(0, 1, 1, 1, 1) = 0 | looked() = -5");
        back("the BOOK's rows that came", "image() = 0 | book(0, 0, 1) = 1", 0, "count(5) = 0 | looked() = -5");
    }

    private static void back(String what, String ahead, int things, String behind) {
        Script.play("23 as THE IMAGE: " + what, ahead + "\nundo() = " + things + "\n" + behind);
    }

    /** All that there is but TRACES, THE TEXT, TAPES. */
    private static void notUndone() {
        back("not TRACES", "trace(\"ga1\") = 0 | image() = 0 | trace(\"pb1=5\") = 1", 0,
            "count(4) = 2 | run(1) = 0 | of(1, 1, 1) = 5 | run(2) = NONE");
        back("not THE TEXT that came", "image() = 0 | feed(103) = 1", 0,
            "count(6) = 1 | feed(97) = 2 | feed(49) = 3 | trace() = 0");
        back("not THE TEXT that was read", "feed(103) = 1 | feed(97) = 2 | feed(49) = 3 | image() = 0 | trace() = 0",
            0, "count(6) = 0 | count(4) = 1 | trace() = -10");
        back("not the items of TAPES", "tape(0, 2, 2) = 1 | item(0, 0, 4) = 1 | image() = 0 | item(0, 0, 5) = 1", 0,
            "read(0, 0) = 5");
        back("not TAPES that came", "image() = 0 | tape(5, 3, 1) = 1", 0, "read(5, 0) = 0");
        back("not TAPES that hold nothing now", "tape(5, 3, 1) = 1 | image() = 0 | tape(5, -1, 0) = 1", 0,
            "read(5, 0) = NO | item(5, 0, 1) = NOTHING");
        back("not the sort of TAPES", "tape(5, 3, 1) = 1 | image() = 0 | tape(5, 0, 1) = 1", 0,
            "item(5, 0, 128) = 1 | read(5, 0) = -128");
    }
}
