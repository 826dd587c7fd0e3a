/** Bounds that the terms and promises 25 to 28 name, each in a run of its own: tape, item, read, shift. */
final class TapeBoundsTest {
    private static final String[] NO_TAPES = {"-1", "6", "7", "MIN", "MAX", "-6"};

    /** Ints 10, 11, 12, 13, 14 on tape 0, and 20, 21, 22 on tape 1. */
    private static final String ROWS = """
        tape(0, 2, 5) = 1 | item(0, 0, 10) = 1 | item(0, 1, 11) = 1 | item(0, 2, 12) = 1 | item(0, 3, 13) = 1
        item(0, 4, 14) = 1
        tape(1, 2, 3) = 1 | item(1, 0, 20) = 1 | item(1, 1, 21) = 1 | item(1, 2, 22) = 1
        """;

    private TapeBoundsTest() {
    }

    public static void main(String[] args) {
        tape();
        tapeAnew();
        places();
        bits();
        shiftRefused();
        shiftPlaces();
        shiftFirst();
        shift();
        sameTape();
        sorts();
        Script.end();
    }

    /** A TAPE becomes a row of n (0 .. 60) of a sort, or holds nothing (sort -1: n does not matter). */
    private static void tape() {
        for (String tape : NO_TAPES) {
            Script.play("25 NONE: tape", "tape(" + tape + ", 0, 1) = NONE | tape(" + tape + ", -1, 0) = NONE");
            Script.play("25 NONE ahead of BAD and SIZE", "tape(" + tape + ", 5, 1) = NONE | tape(" + tape
                + ", 0, 61) = NONE | tape(" + tape + ", 0, -1) = NONE");
        }
        for (int tape = 0; tape < 6; tape++) {
            Script.play("25 each tape", "tape(" + tape + ", 3, 2) = 1 | read(" + tape + ", 1) = 0 | read(" + (tape
                + 1) % 6 + ", 1) = NO");
        }
        for (String sort : new String[] {"0", "1", "2", "3", "4"}) {
            Script.play("25 a row of 0", "tape(0, " + sort + ", 0) = 1 | read(0, 0) = NO | item(0, 0, 1) = PLACE");
            Script.play("25 a row of 1", "tape(0, " + sort + """
                , 1) = 1 | read(0, 0) = 0 | read(0, 1) = NO | item(0, 0, 1) = 1 | item(0, 1, 1) = PLACE
                read(0, 0) = 1
                """);
            Script.play("25 a row of 59", "tape(0, " + sort + """
                , 59) = 1 | read(0, 58) = 0 | read(0, 59) = NO | item(0, 59, 1) = PLACE
                """);
            Script.play("25 a row of 60", "tape(0, " + sort + """
                , 60) = 1 | read(0, 59) = 0 | read(0, 60) = NO | item(0, 59, 1) = 1 | item(0, 60, 1) = PLACE
                """);
            Script.play("25 BAD: n above 60", "tape(0, " + sort + ", 61) = BAD | tape(0, " + sort
                + ", MAX) = BAD | tape(0, " + sort + ", 120) = BAD | item(0, 0, 1) = NOTHING");
            Script.play("25 SIZE: below 0", "tape(0, " + sort + ", -1) = SIZE | tape(0, " + sort
                + ", MIN) = SIZE | tape(0, " + sort + ", -60) = SIZE | item(0, 0, 1) = NOTHING");
        }
        for (String sort : new String[] {"-2", "5", "6", "MIN", "MAX"}) {
            Script.play("25 BAD: sort", "tape(0, " + sort + ", 1) = BAD | item(0, 0, 1) = NOTHING");
            Script.play("25 BAD: sort ahead of SIZE", "tape(0, " + sort + ", -1) = BAD | tape(0, " + sort + """
                , MIN) = BAD
                """);
            Script.play("25 BAD: sort and n", "tape(0, " + sort + ", 61) = BAD | tape(0, " + sort + ", MAX) = BAD");
        }
        for (String n : new String[] {"0", "1", "60", "61", "-1", "MIN", "MAX"}) {
            Script.play("25 sort -1: n does not matter", "tape(0, 2, 5) = 1 | tape(0, -1, " + n + """
                ) = 1 | read(0, 0) = NO | item(0, 0, 1) = NOTHING
                """);
            Script.play("25 sort -1 of what holds nothing", "tape(0, -1, " + n + ") = 1 | item(0, 0, 1) = NOTHING");
        }
    }

    /** All 0. */
    private static void tapeAnew() {
        for (String sort : new String[] {"0", "1", "2", "3", "4"}) {
            Script.play("25 all 0", ROWS + "tape(0, " + sort + """
                , 5) = 1 | read(0, 0) = 0 | read(0, 1) = 0 | read(0, 4) = 0 | read(0, 5) = NO
                """);
        }
        Script.play("25 all 0, longer", ROWS + """
            tape(0, 2, 60) = 1 | read(0, 0) = 0 | read(0, 4) = 0 | read(0, 59) = 0
            """);
        Script.play("25 all 0, shorter and longer again", ROWS + """
            tape(0, 2, 1) = 1 | read(0, 1) = NO | tape(0, 2, 5) = 1 | read(0, 4) = 0
            """);
        Script.play("25 all 0 behind nothing", ROWS + """
            tape(0, -1, 0) = 1 | tape(0, 2, 5) = 1 | read(0, 0) = 0 | read(0, 4) = 0
            """);
        Script.play("25 another tape stays", ROWS + """
            tape(0, 2, 5) = 1 | read(1, 0) = 20 | tape(0, -1, 5) = 1 | read(1, 2) = 22
            """);
        Script.play("25 refused, the row stays", ROWS + """
            tape(0, 2, 61) = BAD | tape(0, 5, 1) = BAD | tape(0, -2, 1) = BAD | tape(0, 0, -1) = SIZE
            tape(0, 0, MIN) = SIZE
            read(0, 0) = 10 | read(0, 4) = 14 | item(0, 0, 128) = 1 | read(0, 0) = 128
            """);
    }

    /** NONE; NOTHING; PLACE; and NO by read. */
    private static void places() {
        for (String tape : NO_TAPES) {
            Script.play("26 NONE", "item(" + tape + ", 0, 1) = NONE | item(" + tape + ", -1, 1) = NONE");
            Script.play("27 NO: no such TAPE", "read(" + tape + ", 0) = NO | read(" + tape + ", -1) = NO");
        }
        for (String place : new String[] {"0", "-1", "60", "MIN", "MAX"}) {
            Script.play("26 NOTHING, ahead of PLACE", "item(0, " + place + ", 1) = NOTHING");
            Script.play("27 NO: nothing there", "read(0, " + place + ") = NO");
        }
        for (String place : new String[] {"-1", "5", "6", "59", "60", "MIN", "MAX"}) {
            Script.play("26 PLACE", ROWS + "item(0, " + place + """
                , 1) = PLACE | read(0, 0) = 10 | read(0, 4) = 14 | read(1, 0) = 20
                """);
            Script.play("27 NO: no such place", ROWS + "read(0, " + place + ") = NO");
        }
        for (int i = 0; i < 5; i++) {
            Script.play("26, 27 each place", ROWS + "read(0, " + i + ") = " + (10 + i) + " | item(0, " + i
                + ", 99) = 1 | read(0, " + i + ") = 99 | read(0, "
                + (i + 1) % 5 + ") = " + (10 + (i + 1) % 5));
        }
    }

    /** Its lowest bits, as many as an item has; booleans: whether v is not 0. */
    private static void bits() {
        long[] values = {0, 1, -1, 2, 127, 128, 129, 255, 256, 257, -127, -128, -129, -255, -256, 32767, 32768,
            32769, 65535, 65536,
            -32768, -32769, -65536, Integer.MAX_VALUE, 1L + Integer.MAX_VALUE, 2L + Integer.MAX_VALUE,
            Integer.MIN_VALUE, Integer.MIN_VALUE - 1L,
            1L << 32, (1L << 32) + 1, -(1L << 32), 1L << 62, Long.MAX_VALUE, Long.MAX_VALUE - 1, Long.MIN_VALUE + 1,
            0x1234567890abcdefL};
        for (long v : values) {
            bits(0, v, remainder(v, 8));
            bits(1, v, remainder(v, 16));
            bits(2, v, remainder(v, 32));
            bits(3, v, v);
            bits(4, v, v == 0 ? 0 : 1);
        }
        bits(0, Long.MIN_VALUE, 0);
        bits(1, Long.MIN_VALUE, 0);
        bits(2, Long.MIN_VALUE, 0);
        bits(3, Long.MIN_VALUE, Long.MIN_VALUE);
        bits(4, Long.MIN_VALUE, 1);
    }

    private static void bits(int sort, long v, long due) {
        Script.play("26 the lowest bits", "tape(0, " + sort + ", 3) = 1 | item(0, 1, " + v + ") = 1 | read(0, 1) = "
            + due + " | read(0, 0) = 0 | read(0, 2) = 0");
    }

    private static long remainder(long v, int bits) {
        long all = 1L << bits;
        long rest = Math.floorMod(v, all);
        return rest < all / 2 ? rest : rest - all;
    }

    private static void shiftRefused() {
        for (String tape : NO_TAPES) {
            Script.play("28 NONE: the one tape", ROWS + "shift(" + tape + ", 0, 1, 0, 1) = NONE | read(1, 0) = 20");
            Script.play("28 NONE: the other tape", ROWS + "shift(0, 0, " + tape + ", 0, 1) = NONE | read(0, 0) = 10");
            Script.play("28 NONE: both", "shift(" + tape + ", 0, " + tape + ", 0, 0) = NONE");
            Script.play("28 NONE ahead of NOTHING", "shift(" + tape + ", 0, 0, 0, 0) = NONE | shift(0, 0, " + tape + """
                , 0, 0) = NONE
                """);
            Script.play("28 NONE ahead of PLACE", ROWS + "shift(" + tape + ", 0, 0, 0, -1) = NONE | shift(0, -1, "
                + tape + ", 0, 0) = NONE");
        }
        Script.play("28 NOTHING: the one", ROWS + "shift(2, 0, 0, 0, 1) = NOTHING | shift(2, 0, 0, 0, 0) = NOTHING");
        Script.play("28 NOTHING: the other", ROWS + "shift(0, 0, 2, 0, 1) = NOTHING | shift(0, 0, 2, 0, 0) = NOTHING");
        Script.play("28 NOTHING: both, and the same", """
            shift(0, 0, 1, 0, 0) = NOTHING | shift(0, 0, 0, 0, 0) = NOTHING
            """);
        String[] sorts = {"0", "1", "2", "3", "4"};
        for (String one : sorts) {
            for (String other : sorts) {
                String due = one.equals(other) ? "1" : "CAST";
                Script.play("28 CAST: of unlike sorts", "tape(0, " + one + ", 2) = 1 | item(0, 0, 1) = 1 | tape(1, "
                    + other + ", 2) = 1 | shift(0, 0, 1, 1, 1) = " + due
                    + " | read(1, 1) = " + (due.equals("1") ? 1 : 0));
                Script.play("28 CAST, though none come", "tape(0, " + one + ", 2) = 1 | tape(1, " + other
                    + ", 2) = 1 | shift(0, 0, 1, 0, 0) = " + (due.equals("1") ? "0" : due));
            }
        }
        Script.play("28 NOTHING ahead of PLACE", """
            tape(0, 1, 2) = 1 | shift(0, 0, 1, 0, -1) = NOTHING | shift(1, -1, 0, 0, 1) = NOTHING
            shift(1, 0, 0, 9, 1) = NOTHING
            """);
        Script.play("28 CAST ahead of PLACE", """
            tape(0, 1, 2) = 1 | tape(1, 2, 2) = 1 | shift(0, 0, 1, 0, -1) = CAST | shift(1, -1, 0, 0, 1) = CAST
            shift(1, 0, 0, 9, 1) = CAST | shift(0, 0, 1, 0, 3) = CAST
            """);
        Script.play("28 NONE ahead of CAST", """
            tape(0, 1, 2) = 1 | tape(1, 2, 2) = 1 | shift(0, 0, 6, 0, 1) = NONE | shift(-1, 0, 1, 0, 1) = NONE
            """);
    }

    /** PLACE: n, i or j is below 0, or beyond either's end. */
    private static void shiftPlaces() {
        place("n is below 0", "0, 0, 1, 0, -1");
        place("n is the least int", "0, 0, 1, 0, MIN");
        place("n below 0, i and j behind it", "0, 3, 1, 3, -1");
        place("i is below 0", "0, -1, 1, 0, 1");
        place("i is below 0, none come", "0, -1, 1, 0, 0");
        place("i is the least int", "0, MIN, 1, 0, 1");
        place("j is below 0", "0, 0, 1, -1, 1");
        place("j is below 0, none come", "0, 0, 1, -1, 0");
        place("j is the least int", "0, 0, 1, MIN, 1");
        place("i is the one's end", "0, 5, 1, 0, 1");
        place("i is behind the one's end, none come", "0, 6, 1, 0, 0");
        place("i and n are beyond the one's end", "0, 3, 1, 0, 3");
        place("j is the other's end", "0, 0, 1, 3, 1");
        place("j is behind the other's end, none come", "0, 0, 1, 4, 0");
        place("j and n are beyond the other's end", "0, 0, 1, 1, 3");
        place("n is beyond the other's end", "0, 0, 1, 0, 4");
        place("n is beyond the one's end", "1, 0, 0, 0, 4");
        place("i and n are beyond the shorter one's end", "1, 1, 0, 0, 3");
        place("n is the greatest int", "0, 0, 1, 0, MAX");
        place("i is the greatest int", "0, MAX, 1, 0, 1");
        place("j is the greatest int", "0, 0, 1, MAX, 1");
        place("i is the greatest int, none come", "0, MAX, 1, 0, 0");
        place("i and n are more than an int together", "0, MAX, 1, 0, MAX");
        place("j and n are more than an int together", "0, 0, 1, MAX, 2");
        place("i by n is 0 by wrap-around", "0, MIN, 1, 0, MIN");
        place("n is more by 1 than the greatest int holds with i", "0, 2, 1, 0, 2147483646");
        place("n is more by 1 than the greatest int holds with j", "0, 0, 1, 2, 2147483646");
        place("of the same: beyond its end", "0, 0, 0, 1, 5");
        place("of the same: from beyond its end", "0, 1, 0, 0, 5");
    }

    private static void place(String why, String told) {
        Script.play("28 PLACE: " + why, ROWS + "shift(" + told + ") = PLACE\n" + """
            read(0, 0) = 10 | read(0, 1) = 11 | read(0, 2) = 12 | read(0, 3) = 13 | read(0, 4) = 14 | read(0, 5) = NO
            read(1, 0) = 20 | read(1, 1) = 21 | read(1, 2) = 22 | read(1, 3) = NO
            """);
    }

    private static void shiftFirst() {
        Script.play("28 none: 0", ROWS + "shift(0, 0, 1, 0, 0) = 0 | read(1, 0) = 20");
        Script.play("28 none from the one's end on: 0", ROWS + "shift(0, 5, 1, 0, 0) = 0");
        Script.play("28 none to the other's end: 0", ROWS + "shift(0, 0, 1, 3, 0) = 0 | shift(0, 5, 1, 3, 0) = 0");
        Script.play("28 none of rows of 0: 0", """
            tape(0, 1, 0) = 1 | tape(1, 1, 0) = 1 | shift(0, 0, 1, 0, 0) = 0 | shift(0, 0, 1, 0, 1) = PLACE
            shift(0, 1, 1, 0, 0) = PLACE
            """);
    }

    /** n items of a TAPE from i on come to another one from j on: n. */
    private static void shift() {
        Script.play("28 up to the other's end", ROWS + """
            shift(0, 0, 1, 0, 3) = 3 | read(1, 0) = 10 | read(1, 1) = 11 | read(1, 2) = 12 | read(1, 3) = NO
            """);
        Script.play("28 from the one's last ones", ROWS + """
            shift(0, 2, 1, 0, 3) = 3 | read(1, 0) = 12 | read(1, 2) = 14
            """);
        Script.play("28 the last one to the last place", ROWS + """
            shift(0, 4, 1, 2, 1) = 1 | read(1, 2) = 14 | read(1, 1) = 21
            """);
        Script.play("28 the first one to the first place", ROWS + """
            shift(0, 0, 1, 0, 1) = 1 | read(1, 0) = 10 | read(1, 1) = 21
            """);
        Script.play("28 the one stays as it is", ROWS + """
            shift(0, 1, 1, 1, 2) = 2 | read(0, 1) = 11 | read(0, 2) = 12 | read(1, 0) = 20 | read(1, 1) = 11
            read(1, 2) = 12
            """);
        Script.play("28 the shorter to the longer, whole", ROWS + """
            shift(1, 0, 0, 2, 3) = 3 | read(0, 1) = 11 | read(0, 2) = 20 | read(0, 4) = 22
            """);
        Script.play("28 60 of 60", "tape(0, 3, 60) = 1 | item(0, 0, 7) = 1 | item(0, 59, 8) = 1 | "
            + "tape(5, 3, 60) = 1 | shift(0, 0, 5, 0, 60) = 60 | read(5, 0) = 7 | read(5, 59) = 8"
            + " | shift(0, 0, 5, 0, 61) = PLACE | shift(0, 0, 5, 1, 60) = PLACE | shift(0, 1, 5, 0, 60) = PLACE");
    }

    /** As they all were before. */
    private static void sameTape() {
        Script.play("28 of the same, forth by 1", ROWS + """
            shift(0, 0, 0, 1, 4) = 4 | read(0, 0) = 10 | read(0, 1) = 10 | read(0, 2) = 11 | read(0, 3) = 12
            read(0, 4) = 13
            """);
        Script.play("28 of the same, back by 1", ROWS + """
            shift(0, 1, 0, 0, 4) = 4 | read(0, 0) = 11 | read(0, 1) = 12 | read(0, 2) = 13 | read(0, 3) = 14
            read(0, 4) = 14
            """);
        Script.play("28 of the same, forth by 2", ROWS + """
            shift(0, 0, 0, 2, 3) = 3 | read(0, 0) = 10 | read(0, 1) = 11 | read(0, 2) = 10 | read(0, 3) = 11
            read(0, 4) = 12
            """);
        Script.play("28 of the same, back by 2", ROWS + """
            shift(0, 2, 0, 0, 3) = 3 | read(0, 0) = 12 | read(0, 1) = 13 | read(0, 2) = 14 | read(0, 3) = 13
            read(0, 4) = 14
            """);
        Script.play("28 of the same, to where they are", ROWS + """
            shift(0, 0, 0, 0, 5) = 5 | read(0, 0) = 10 | read(0, 4) = 14
            """);
    }

    /** A row of 0 bytes, 1 shorts, 2 ints, 3 longs, 4 booleans: also what came by shift is of the sort. */
    private static void sorts() {
        long[] most = {Byte.MAX_VALUE, Short.MAX_VALUE, Integer.MAX_VALUE, Long.MAX_VALUE, 1};
        long[] least = {Byte.MIN_VALUE, Short.MIN_VALUE, Integer.MIN_VALUE, Long.MIN_VALUE + 1, 0};
        for (int sort = 0; sort < 5; sort++) {
            Script.play("26 to 28 the greatest and the least item", "tape(2, " + sort + ", 2) = 1 | item(2, 0, "
                + most[sort] + ") = 1 | item(2, 1, " + least[sort]
                + ") = 1 | read(2, 0) = " + most[sort] + " | read(2, 1) = " + least[sort] + " | tape(3, " + sort
                + ", 2) = 1 | shift(2, 0, 3, 0, 2) = 2 | read(3, 0) = "
                + most[sort] + " | read(3, 1) = " + least[sort]);
        }
    }
}
