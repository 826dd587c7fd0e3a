/** Bounds of things and of promises 4 to 10, each in a run of its own: put, get, drop, pin, of, key, gone. */
final class ThingBoundsTest {
    /** The key 0, 0 is a ghost of probation that weighs 9; CAPACITY 9, BORDER 9, LIVES 0; 0, 1 is on probation. */
    private static final String GHOST = "set(3, 0) = 1 | set(0, 9) = 20 | put(0, 0, 1, 9, 1) = 0 | "
        + "put(0, 1, 1, 9, 1) = 0\n";

    /** The key 0, 0 is a ghost of protected that weighs 9; CAPACITY 10, BORDER 10; 0, 1 is pinned on probation. */
    private static final String PROTECTED_GHOST = """
        set(2, 1) = 2 | put(0, 0, 1, 9, 1) = 0 | get(0, 0) = 1 | put(0, 1, 1, 9, 1) = 0 | pin(0, 1, true) = 0
        set(0, 10) = 20
        """;

    /** The key 0, 0 weighs 9 by CAPACITY 5, and would go by a trim. */
    private static final String DUE = """
        set(3, 0) = 1 | put(0, 0, 77, 9, 4) = 0 | pin(0, 0, true) = 0 | set(0, 5) = 20 | pin(0, 0, false) = 1
        """;

    private ThingBoundsTest() {
    }

    public static void main(String[] args) {
        numbers();
        full();
        whatIsThere();
        newOnes();
        byGhost();
        byProtectedGhost();
        hits();
        get();
        drop();
        pin();
        of();
        key();
        gone();
        Script.end();
    }

    /** VALUE (an int), WEIGHT (1 .. 9), COST (0 .. 99). */
    private static void numbers() {
        for (String value : new String[] {"MIN", "-2147483647", "-1", "0", "1", "2147483646", "MAX"}) {
            Script.play("4 any VALUE", "put(0, 0, " + value + ", 1, 1) = 0 | get(0, 0) = " + value);
            Script.play("4 any VALUE of what is there", "put(0, 0, 5, 1, 1) = 0 | put(0, 0, " + value
                + ", 1, 1) = 2 | get(0, 0) = " + value);
        }
        for (String weight : new String[] {"1", "2", "8", "9"}) {
            Script.play("4 WEIGHT inside", "put(0, 0, 1, " + weight + ", 1) = 0 | of(0, 0, 1) = " + weight
                + " | told(4) = " + weight);
        }
        for (String weight : new String[] {"0", "10", "-1", "11", "MIN", "MAX", "257"}) {
            Script.play("4 BAD: WEIGHT", "put(0, 0, 1, " + weight + ", 1) = BAD | of(0, 0, 0) = 0 | told(12) = 0");
        }
        for (String cost : new String[] {"0", "1", "98", "99"}) {
            Script.play("4 COST inside", "put(0, 0, 1, 1, " + cost + ") = 0 | of(0, 0, 2) = " + cost
                + " | told(12) = " + cost
                + " | get(0, 0) = 1 | told(11) = " + cost);
        }
        for (String cost : new String[] {"-1", "100", "-99", "101", "MIN", "MAX", "256"}) {
            Script.play("4 BAD: COST", "put(0, 0, 1, 1, " + cost + ") = BAD | of(0, 0, 0) = 0 | told(12) = 0");
        }
        Script.play("4 BAD of what is there leaves it", """
            put(0, 0, 1, 2, 3) = 0 | put(0, 0, 9, 10, 9) = BAD | put(0, 0, 9, 9, 100) = BAD | put(0, 0, 9, 0, 0) = BAD
            of(0, 0, 1) = 2 | of(0, 0, 2) = 3 | of(0, 0, 3) = 0 | get(0, 0) = 1
            """);
    }

    private static void full() {
        Script.play("4 WEIGHT as much as CAPACITY", "set(0, 4) = 20 | put(0, 0, 1, 4, 1) = 0 | of(0, 0, 0) = 1");
        Script.play("4 FULL: WEIGHT 1 above CAPACITY", """
            set(0, 4) = 20 | put(0, 0, 1, 5, 1) = FULL | of(0, 0, 0) = 0 | told(12) = 0
            """);
        Script.play("4 WEIGHT 1 by CAPACITY 1", "set(0, 1) = 20 | put(0, 0, 1, 1, 1) = 0 | of(0, 0, 0) = 1");
        Script.play("4 FULL: WEIGHT 2 by CAPACITY 1", "set(0, 1) = 20 | put(0, 0, 1, 2, 1) = FULL | of(0, 0, 0) = 0");
        Script.play("4 WEIGHT 9 by CAPACITY 9", "set(0, 9) = 20 | put(0, 0, 1, 9, 1) = 0");
        Script.play("4 FULL: WEIGHT 9 by CAPACITY 8", "set(0, 8) = 20 | put(0, 0, 1, 9, 1) = FULL");
        Script.play("4 FULL also if a THING is there", """
            set(0, 4) = 20 | put(0, 0, 1, 2, 3) = 0 | put(0, 0, 9, 5, 9) = FULL
            of(0, 0, 1) = 2 | of(0, 0, 2) = 3 | of(0, 0, 3) = 0 | get(0, 0) = 1
            """);
        Script.play("4 FULL also by a GHOST, which stays one", """
            set(3, 0) = 1 | set(0, 4) = 20 | put(0, 0, 1, 4, 1) = 0 | put(0, 1, 1, 4, 1) = 0
            put(0, 0, 1, 5, 1) = FULL | of(0, 0, 0) = 3 | of(0, 0, 1) = 4 | told(1) = 4 | told(12) = 2
            """);
        Script.play("4 not FULL if only all together are above CAPACITY", """
            set(3, 0) = 1 | set(0, 4) = 20 | put(0, 0, 1, 4, 1) = 0 | put(0, 1, 1, 4, 1) = 0 | of(0, 1, 0) = 1
            of(0, 0, 0) = 3
            """);
        Script.play("4 what is new goes itself, if what is pinned leaves no room", """
            set(3, 0) = 1 | set(0, 4) = 20 | put(0, 0, 1, 4, 1) = 0 | pin(0, 0, true) = 0 | put(0, 1, 1, 1, 9) = 0
            of(0, 1, 0) = 3 | gone(0) = 1 | told(12) = 10
            """);
    }

    /** A THING is there: it has these then, and is HIT. */
    private static void whatIsThere() {
        Script.play("4 of PROBATION: 2", """
            put(0, 0, 1, 1, 1) = 0 | put(0, 0, 5, 7, 9) = 2 | of(0, 0, 1) = 7 | of(0, 0, 2) = 9 | get(0, 0) = 5
            """);
        Script.play("4 of PROTECTED: 2", """
            set(2, 1) = 2 | put(0, 0, 1, 1, 1) = 0 | get(0, 0) = 1 | put(0, 0, 5, 7, 9) = 2
            of(0, 0, 0) = 2 | of(0, 0, 1) = 7 | of(0, 0, 2) = 9 | of(0, 0, 3) = 2 | get(0, 0) = 5
            """);
        Script.play("4 PAID isn't more by what is there", """
            put(0, 0, 1, 1, 5) = 0 | put(0, 0, 1, 1, 9) = 2 | told(12) = 5
            """);
        Script.play("4 HAD and SAVED aren't more by a put", """
            put(0, 0, 1, 1, 5) = 0 | put(0, 0, 1, 1, 9) = 2 | told(8) = 0 | told(11) = 0
            """);
        Script.play("4 SAVED is by the COST told last", """
            put(0, 0, 1, 1, 5) = 0 | put(0, 0, 1, 1, 9) = 2 | get(0, 0) = 1 | told(11) = 9
            """);
        Script.play("4 CHANCES stay by what is there", """
            put(0, 0, 1, 1, 5) = 0 | set(3, 7) = 1 | put(0, 0, 1, 1, 9) = 2 | of(0, 0, 4) = 1
            """);
        Script.play("4 it stays PINNED", """
            put(0, 0, 1, 1, 5) = 0 | pin(0, 0, true) = 0 | put(0, 0, 1, 1, 9) = 2 | of(0, 0, 5) = 1
            """);
        Script.play("4 HIT: the newest of its QUEUE", """
            put(0, 0, 1, 1, 1) = 0 | put(0, 1, 1, 1, 1) = 0 | put(0, 0, 1, 1, 1) = 2 | key(1, 0) = 1 | key(1, 1) = 0
            """);
        Script.play("4 HIT lifts it by RISE", """
            put(0, 0, 1, 1, 1) = 0 | put(0, 0, 1, 1, 1) = 2 | of(0, 0, 0) = 1 | put(0, 0, 1, 1, 1) = 2
            of(0, 0, 0) = 2
            """);
        Script.play("4 then TRIM: one that is heavier now stays, the older goes", """
            set(3, 0) = 1 | set(0, 9) = 20 | put(0, 0, 1, 4, 1) = 0 | put(0, 1, 1, 4, 1) = 0 | put(0, 0, 1, 6, 1) = 2
            of(0, 0, 0) = 1 | of(0, 1, 0) = 3
            """);
        Script.play("4 then TRIM: as heavy as CAPACITY together, none goes", """
            set(3, 0) = 1 | set(0, 9) = 20 | put(0, 0, 1, 4, 1) = 0 | put(0, 1, 1, 4, 1) = 0 | put(0, 0, 1, 5, 1) = 2
            told(4) = 9 | told(13) = 0
            """);
        Script.play("4 then TRIM: one that rises by it and is above BORDER comes back", """
            set(2, 1) = 2 | set(1, 4) = 10 | put(0, 0, 1, 4, 1) = 0 | put(0, 0, 1, 5, 1) = 2
            of(0, 0, 0) = 1 | of(0, 0, 3) = 0
            """);
        Script.play("4 then TRIM: one that rises by it and weighs as much as BORDER stays", """
            set(2, 1) = 2 | set(1, 4) = 10 | put(0, 0, 1, 5, 1) = 0 | put(0, 0, 1, 4, 1) = 2 | of(0, 0, 0) = 2
            of(0, 0, 3) = 1
            """);
        Script.play("4 then TRIM: what is due goes, too, though another one is put", DUE + """
            put(0, 1, 1, 1, 1) = 0 | of(0, 1, 0) = 1 | gone(0) = 0
            """);
        Script.play("4 it may go itself by this TRIM", DUE + "put(0, 0, 1, 5, 1) = 2 | of(0, 0, 0) = 1 | told(13) = 0");
        Script.play("4 it goes itself if a pinned one leaves no room", """
            set(3, 0) = 1 | set(0, 9) = 20 | put(0, 1, 1, 5, 1) = 0 | pin(0, 1, true) = 0 | put(0, 0, 1, 4, 1) = 0
            put(0, 0, 1, 5, 1) = 2 | of(0, 0, 0) = 3 | of(0, 0, 1) = 5 | told(4) = 5
            """);
    }

    private static void newOnes() {
        Script.play("4 new: 0, the newest of PROBATION", """
            put(0, 5, 1, 1, 1) = 0 | put(0, 3, 1, 1, 1) = 0 | key(1, 0) = 5 | key(1, 1) = 3 | key(2, 0) = -5
            """);
        Script.play("4 new: HITS 0", "put(0, 0, 1, 1, 1) = 0 | of(0, 0, 3) = 0");
        Script.play("4 new by RISE 1: on PROBATION all the same", """
            set(2, 1) = 2 | put(0, 0, 1, 1, 1) = 0 | of(0, 0, 0) = 1
            """);
        for (int lives : new int[] {0, 1, 2, 9}) {
            Script.play("4 new: CHANCES are LIVES", "set(3, " + lives + ") = 1 | put(0, 0, 1, 1, 1) = 0 | "
                + "of(0, 0, 4) = " + lives);
        }
        Script.play("4 new: not PINNED", "put(0, 0, 1, 1, 1) = 0 | of(0, 0, 5) = 0");
        Script.play("4 new again behind a drop: nothing is left of what it was", """
            set(2, 1) = 2 | put(0, 0, 1, 1, 1) = 0 | get(0, 0) = 1 | pin(0, 0, true) = 0 | drop(0, 0) = 2
            set(3, 4) = 1
            put(0, 0, 2, 2, 2) = 0 | of(0, 0, 0) = 1 | of(0, 0, 3) = 0 | of(0, 0, 4) = 4 | of(0, 0, 5) = 0 | told(5) = 0
            """);
        Script.play("4 PAID is COST more", """
            put(0, 0, 1, 1, 99) = 0 | put(0, 1, 1, 1, 1) = 0 | told(12) = 100 | put(0, 2, 1, 1, 0) = 0
            told(12) = 100
            """);
        Script.play("4 new doesn't move BORDER", "put(0, 0, 1, 9, 1) = 0 | told(1) = 10");
    }

    /** BORDER is less by the WEIGHT told now (0 at least; a GHOST of PROBATION). */
    private static void byGhost() {
        Script.play("4 by a GHOST: 1, the newest of PROTECTED", GHOST + "put(0, 0, 1, 1, 1) = 1 | of(0, 0, 0) = 2");
        Script.play("4 the newest of PROTECTED behind others", """
            set(3, 0) = 1 | set(2, 1) = 2 | set(0, 9) = 20 | put(0, 0, 1, 7, 1) = 0 | put(0, 1, 1, 2, 1) = 0
            get(0, 1) = 1
            put(0, 2, 1, 7, 1) = 0 | of(0, 0, 0) = 3 | put(0, 0, 1, 1, 1) = 1 | key(2, 0) = 1 | key(2, 1) = 0
            """);
        Script.play("4 a GHOST is one no more", GHOST + """
            put(0, 0, 1, 1, 1) = 1 | count(2) = 1 | key(3, 0) = 1 | key(3, 1) = -5 | told(6) = 9
            """);
        Script.play("4 BORDER less by the WEIGHT told now, not by the GHOST's", GHOST + """
            put(0, 0, 1, 2, 1) = 1 | told(1) = 7
            """);
        Script.play("4 BORDER less, 1 left", GHOST + "put(0, 0, 1, 8, 1) = 1 | told(1) = 1");
        Script.play("4 BORDER less, 0 at least: just 0", GHOST + "put(0, 0, 1, 9, 1) = 1 | told(1) = 0");
        Script.play("4 BORDER less, 0 at least: 1 more than it was", GHOST + """
            set(1, 8) = 9 | put(0, 0, 1, 9, 1) = 1 | told(1) = 0
            """);
        Script.play("4 BORDER less, 0 at least: it was 0", GHOST + """
            set(1, 0) = 9 | put(0, 0, 1, 1, 1) = 1 | told(1) = 0
            """);
        Script.play("4 then TRIM: by BORDER 0 it comes to PROBATION, HITS 0, CHANCES 0", GHOST + """
            set(3, 9) = 0 | put(0, 0, 1, 9, 1) = 1 | of(0, 0, 0) = 1 | of(0, 0, 3) = 0 | of(0, 0, 4) = 0
            of(0, 1, 0) = 3
            """);
        Script.play("4 then TRIM: it weighs as much as BORDER then, and stays", GHOST + """
            set(1, 4) = 9 | put(0, 0, 1, 2, 1) = 1 | told(1) = 2 | of(0, 0, 0) = 2
            """);
        Script.play("4 then TRIM: it weighs 1 more than BORDER then", GHOST + """
            set(1, 3) = 9 | put(0, 0, 1, 2, 1) = 1 | told(1) = 1 | of(0, 0, 0) = 1
            """);
        Script.play("4 by a GHOST: HITS 0", GHOST + "put(0, 0, 1, 1, 1) = 1 | of(0, 0, 3) = 0");
        Script.play("4 by a GHOST: CHANCES 0 by any LIVES", GHOST + """
            set(3, 9) = 0 | put(0, 0, 1, 1, 1) = 1 | of(0, 0, 4) = 0
            """);
        Script.play("4 by a GHOST: not PINNED", GHOST + "put(0, 0, 1, 1, 1) = 1 | of(0, 0, 5) = 0");
        Script.play("4 by a GHOST: PAID is COST more", GHOST + "put(0, 0, 1, 1, 99) = 1 | told(12) = 101");
        Script.play("4 by a GHOST: it has what is told", GHOST + """
            put(0, 0, -7, 3, 98) = 1 | of(0, 0, 1) = 3 | of(0, 0, 2) = 98 | get(0, 0) = -7
            """);
        Script.play("4 a put by a GHOST is not HAUNTED, nor MISSED", GHOST + """
            put(0, 0, 1, 1, 1) = 1 | told(9) = 0 | told(10) = 0
            """);
    }

    /** BORDER is more by it (CAPACITY at most; a GHOST of PROTECTED). */
    private static void byProtectedGhost() {
        Script.play("4 by a GHOST of PROTECTED: 1, the newest of PROTECTED", PROTECTED_GHOST + """
            put(0, 0, 1, 1, 1) = 1 | of(0, 0, 0) = 2
            """);
        Script.play("4 a GHOST of PROTECTED is one no more", PROTECTED_GHOST + """
            put(0, 0, 1, 1, 1) = 1 | count(3) = 0 | told(7) = 0 | key(4, 0) = -5
            """);
        Script.play("4 BORDER more by the WEIGHT told now", PROTECTED_GHOST + """
            set(1, 3) = 10 | put(0, 0, 1, 1, 1) = 1 | told(1) = 4
            """);
        Script.play("4 BORDER more, 1 below CAPACITY", PROTECTED_GHOST + """
            set(1, 5) = 10 | put(0, 0, 1, 4, 1) = 1 | told(1) = 9
            """);
        Script.play("4 BORDER more, CAPACITY at most: just that", PROTECTED_GHOST + """
            set(1, 6) = 10 | put(0, 0, 1, 4, 1) = 1 | told(1) = 10
            """);
        Script.play("4 BORDER more, CAPACITY at most: 1 above", PROTECTED_GHOST + """
            set(1, 7) = 10 | put(0, 0, 1, 4, 1) = 1 | told(1) = 10
            """);
        Script.play("4 BORDER more, CAPACITY at most: it was that", PROTECTED_GHOST + """
            put(0, 0, 1, 9, 1) = 1 | told(1) = 10
            """);
        Script.play("4 BORDER more ahead of TRIM: from 0 it stays protected", PROTECTED_GHOST + """
            set(1, 0) = 10 | put(0, 0, 1, 1, 1) = 1 | told(1) = 1 | of(0, 0, 0) = 2
            """);
        Script.play("4 by a GHOST of PROTECTED: HITS 0, CHANCES 0", PROTECTED_GHOST + """
            set(3, 9) = 1 | put(0, 0, 1, 1, 1) = 1 | of(0, 0, 3) = 0 | of(0, 0, 4) = 0
            """);
        Script.play("4 by a GHOST of PROTECTED: not PINNED", PROTECTED_GHOST + """
            put(0, 0, 1, 1, 1) = 1 | of(0, 0, 5) = 0
            """);
        Script.play("4 by a GHOST of PROTECTED: PAID is COST more", PROTECTED_GHOST + """
            put(0, 0, 1, 1, 99) = 1 | told(12) = 101
            """);
        Script.play("4 a dropped GHOST moves no BORDER", PROTECTED_GHOST + """
            drop(0, 0) = 4 | set(1, 3) = 10 | put(0, 0, 1, 1, 1) = 0 | told(1) = 3
            """);
        Script.play("a KEY is a GHOST of one at most: the one where it WENT last", PROTECTED_GHOST + """
            pin(0, 1, false) = 1 | set(1, 0) = 10 | put(0, 0, 1, 9, 1) = 1 | of(0, 0, 0) = 2 | set(1, 0) = 9
            put(0, 2, 1, 9, 1) = 0 | of(0, 0, 0) = 3 | count(3) = 0 | told(7) = 0
            """);
    }

    /** HITS are 1 more (99 at most); RISE or more. */
    private static void hits() {
        for (String call : new String[] {"get(0, 0) = 1", "put(0, 0, 1, 1, 1) = 2"}) {
            Script.play("HITS 98", "put(0, 0, 1, 1, 1) = 0\n" + (call + "\n").repeat(98) + "of(0, 0, 3) = 98");
            Script.play("HITS 99", "put(0, 0, 1, 1, 1) = 0\n" + (call + "\n").repeat(99) + "of(0, 0, 3) = 99");
            Script.play("HITS 99 at most", "put(0, 0, 1, 1, 1) = 0\n" + (call + "\n").repeat(100) + "of(0, 0, 3) = 99");
            Script.play("HITS 99 at most, many more", "put(0, 0, 1, 1, 1) = 0\n" + (call + "\n").repeat(300) + """
                of(0, 0, 3) = 99
                """);
            for (int rise = 1; rise <= 9; rise++) {
                String risen = "set(2, " + rise + ") = 2 | put(0, 0, 1, 1, 1) = 0\n";
                Script.play("a HIT less than RISE", risen + (call + "\n").repeat(rise - 1)
                    + "of(0, 0, 0) = 1 | of(0, 0, 3) = " + (rise - 1));
                Script.play("as many HITS as RISE", risen + (call + "\n").repeat(rise)
                    + "of(0, 0, 0) = 2 | of(0, 0, 3) = " + rise);
            }
        }
        Script.play("more HITS than RISE, which is less now", """
            set(2, 9) = 2 | put(0, 0, 1, 1, 1) = 0 | get(0, 0) = 1 | get(0, 0) = 1 | set(2, 2) = 9 | of(0, 0, 0) = 1
            get(0, 0) = 1 | of(0, 0, 0) = 2 | of(0, 0, 3) = 3
            """);
        Script.play("a HIT of PROTECTED with fewer HITS than RISE: it stays there", GHOST + """
            set(2, 9) = 2 | put(0, 0, 1, 1, 1) = 1 | get(0, 0) = 1 | of(0, 0, 0) = 2 | of(0, 0, 3) = 1
            """);
        Script.play("HIT: the newest of PROBATION", """
            put(0, 0, 1, 1, 1) = 0 | put(0, 1, 1, 1, 1) = 0 | get(0, 0) = 1 | key(1, 0) = 1 | key(1, 1) = 0
            """);
        Script.play("HIT: the newest one is so again", """
            put(0, 0, 1, 1, 1) = 0 | put(0, 1, 1, 1, 1) = 0 | get(0, 1) = 1 | key(1, 0) = 0 | key(1, 1) = 1
            """);
        Script.play("HIT: the newest of PROTECTED", """
            set(2, 1) = 2 | put(0, 0, 1, 1, 1) = 0 | get(0, 0) = 1 | put(0, 1, 1, 1, 1) = 0 | get(0, 1) = 1
            key(2, 0) = 0 | key(2, 1) = 1 | get(0, 0) = 1 | key(2, 0) = 1 | key(2, 1) = 0
            """);
        Script.play("HIT by RISE: the newest of PROTECTED, out of PROBATION", """
            set(2, 1) = 2 | put(0, 0, 1, 1, 1) = 0 | get(0, 0) = 1 | put(0, 1, 1, 2, 1) = 0 | get(0, 1) = 1
            key(2, 1) = 1 | count(0) = 0 | told(4) = 0 | told(5) = 3
            """);
        Script.play("HIT by RISE: HITS and CHANCES stay", """
            put(0, 0, 1, 1, 1) = 0 | get(0, 0) = 1 | get(0, 0) = 1 | of(0, 0, 3) = 2 | of(0, 0, 4) = 1
            """);
        Script.play("HIT by RISE: a PINNED one as well, and it stays so", """
            put(0, 0, 1, 1, 1) = 0 | pin(0, 0, true) = 0 | get(0, 0) = 1 | get(0, 0) = 1 | of(0, 0, 0) = 2
            of(0, 0, 5) = 1
            """);
    }

    private static void get() {
        Script.play("5 a THING is there: HAD is 1 more", """
            put(0, 0, 1, 1, 1) = 0 | get(0, 0) = 1 | told(8) = 1 | told(9) = 0 | told(10) = 0
            """);
        Script.play("5 SAVED is its COST more: 99", """
            put(0, 0, 1, 1, 99) = 0 | get(0, 0) = 1 | get(0, 0) = 1 | told(11) = 198
            """);
        Script.play("5 SAVED is its COST more: 0", """
            put(0, 0, 1, 1, 0) = 0 | get(0, 0) = 1 | told(11) = 0 | told(8) = 1
            """);
        Script.play("5 PAID isn't more by it", "put(0, 0, 1, 1, 5) = 0 | get(0, 0) = 1 | told(12) = 5");
        Script.play("5 then TRIM: it may go, its VALUE is told", DUE + """
            get(0, 0) = 77 | of(0, 0, 0) = 0 | told(13) = 1 | told(11) = 4 | told(8) = 1
            """);
        Script.play("5 then TRIM: another one may go", DUE + """
            set(0, 9) = 5 | put(0, 1, 5, 9, 1) = 0 | of(0, 0, 0) = 3 | get(0, 1) = 5 | of(0, 1, 0) = 1
            """);
        Script.play("5 then TRIM: what rises above BORDER comes back, HITS 0", """
            set(1, 0) = 10 | set(2, 1) = 2 | put(0, 0, 1, 1, 1) = 0 | get(0, 0) = 1 | of(0, 0, 0) = 1
            of(0, 0, 3) = 0
            """);
        Script.play("5 then TRIM: the oldest protected makes room for what rises", """
            set(2, 1) = 2 | put(0, 0, 1, 5, 1) = 0 | get(0, 0) = 1 | put(0, 1, 1, 6, 1) = 0 | get(0, 1) = 1
            of(0, 0, 0) = 1 | of(0, 1, 0) = 2
            """);
        Script.play("5 none there: NO, MISSED is 1 more", """
            get(0, 0) = NO | told(9) = 1 | told(8) = 0 | told(10) = 0 | told(11) = 0 | told(12) = 0
            """);
        Script.play("5 none there: nothing comes by it", "get(0, 0) = NO | of(0, 0, 0) = 0 | count(0) = 0");
        Script.play("5 a GHOST: HAUNTED is 1 more, and MISSED", GHOST + """
            get(0, 0) = NO | told(9) = 1 | told(10) = 1 | told(8) = 0
            """);
        Script.play("5 a GHOST stays one, in its place", """
            set(3, 0) = 1 | set(0, 4) = 20 | put(0, 0, 1, 2, 1) = 0 | put(0, 1, 1, 2, 1) = 0 | put(0, 2, 1, 4, 1) = 0
            get(0, 0) = NO | key(3, 0) = 0 | key(3, 1) = 1 | told(1) = 4
            """);
        Script.play("5 a GHOST of PROTECTED: HAUNTED is 1 more, and MISSED", PROTECTED_GHOST + """
            get(0, 0) = NO | told(9) = 1 | told(10) = 1 | of(0, 0, 0) = 4 | told(1) = 10
            """);
        Script.play("5 a dropped GHOST is MISSED only", GHOST + """
            drop(0, 0) = 3 | get(0, 0) = NO | told(9) = 1 | told(10) = 0
            """);
        Script.play("5 no TRIM by a miss", DUE + "get(0, 1) = NO | told(13) = 0 | told(4) = 9");
        Script.play("5 no TRIM by no such KEY", DUE + "get(4, 0) = NO | told(13) = 0 | told(4) = 9");
    }

    /** Where it was, as of(.., 0). */
    private static void drop() {
        Script.play("6 nowhere: 0", "drop(0, 0) = 0 | of(0, 0, 0) = 0");
        Script.play("6 PROBATION: 1, and no GHOST", """
            put(0, 0, 1, 9, 1) = 0 | drop(0, 0) = 1 | of(0, 0, 0) = 0 | count(2) = 0 | told(4) = 0 | told(13) = 0
            gone(0) = -5
            """);
        Script.play("6 PROTECTED: 2, and no GHOST", """
            set(2, 1) = 2 | put(0, 0, 1, 9, 1) = 0 | get(0, 0) = 1 | drop(0, 0) = 2 | of(0, 0, 0) = 0 | count(3) = 0
            told(5) = 0 | told(13) = 0
            """);
        Script.play("6 a GHOST of PROBATION: 3, and one no more", GHOST + """
            drop(0, 0) = 3 | of(0, 0, 0) = 0 | told(6) = 0 | count(2) = 0 | gone(0) = 0 | told(13) = 1
            """);
        Script.play("6 a GHOST of PROTECTED: 4, and one no more", PROTECTED_GHOST + """
            drop(0, 0) = 4 | of(0, 0, 0) = 0 | told(7) = 0 | count(3) = 0 | gone(0) = 0 | told(13) = 1
            """);
        Script.play("6 twice: 0 then", "put(0, 0, 1, 1, 1) = 0 | drop(0, 0) = 1 | drop(0, 0) = 0");
        Script.play("6 a PINNED one, too", """
            put(0, 0, 1, 1, 1) = 0 | pin(0, 0, true) = 0 | drop(0, 0) = 1 | of(0, 0, 0) = 0
            """);
        Script.play("6 from between others", """
            put(0, 0, 1, 1, 1) = 0 | put(0, 1, 1, 1, 1) = 0 | put(0, 2, 1, 1, 1) = 0 | drop(0, 1) = 1
            key(1, 0) = 0 | key(1, 1) = 2 | key(1, 2) = -5
            """);
        Script.play("6 no TRIM by it", DUE + "drop(0, 1) = 0 | told(13) = 0 | told(4) = 9");
        Script.play("6 nothing MISSED by it", GHOST + """
            drop(0, 0) = 3 | drop(0, 0) = 0 | told(9) = 0 | told(10) = 0 | told(8) = 0
            """);
    }

    private static void pin() {
        Script.play("7 STATE: nothing there", "pin(0, 0, true) = STATE | pin(0, 0, false) = STATE");
        Script.play("7 STATE: a GHOST of PROBATION", GHOST + """
            pin(0, 0, true) = STATE | pin(0, 0, false) = STATE | of(0, 0, 0) = 3
            """);
        Script.play("7 STATE: a GHOST of PROTECTED", PROTECTED_GHOST + """
            pin(0, 0, true) = STATE | pin(0, 0, false) = STATE | of(0, 0, 0) = 4
            """);
        Script.play("7 STATE: dropped", "put(0, 0, 1, 1, 1) = 0 | drop(0, 0) = 1 | pin(0, 0, true) = STATE");
        Script.play("7 refused, a GHOST isn't PINNED when it comes back", GHOST + """
            pin(0, 0, true) = STATE | put(0, 0, 1, 1, 1) = 1 | of(0, 0, 5) = 0
            """);
        Script.play("7 whether it was: no, no", """
            put(0, 0, 1, 1, 1) = 0 | pin(0, 0, false) = 0 | pin(0, 0, false) = 0 | of(0, 0, 5) = 0
            """);
        Script.play("7 whether it was: no, yes, yes, no", """
            put(0, 0, 1, 1, 1) = 0 | pin(0, 0, true) = 0 | pin(0, 0, true) = 1 | pin(0, 0, false) = 1
            pin(0, 0, false) = 0
            """);
        Script.play("7 a protected one", """
            set(2, 1) = 2 | put(0, 0, 1, 1, 1) = 0 | get(0, 0) = 1 | pin(0, 0, true) = 0 | of(0, 0, 5) = 1
            pin(0, 0, false) = 1 | of(0, 0, 5) = 0
            """);
        Script.play("7 it isn't HIT by it", """
            put(0, 0, 1, 1, 1) = 0 | put(0, 1, 1, 1, 1) = 0 | pin(0, 0, true) = 0 | of(0, 0, 3) = 0 | of(0, 0, 6) = 0
            """);
        Script.play("7 no TRIM by it", DUE + "pin(0, 0, true) = 0 | pin(0, 0, false) = 1 | told(13) = 0 | told(4) = 9");
    }

    private static void of() {
        for (String what : new String[] {"-1", "7", "8", "MIN", "MAX", "-6"}) {
            Script.play("8 NONE: what", "of(0, 0, " + what + ") = NONE | put(0, 0, 1, 1, 1) = 0 | of(0, 0, " + what
                + ") = NONE");
        }
        String thing = "set(3, 7) = 1 | put(0, 9, 1, 1, 1) = 0 | put(0, 0, 4, 3, 41) = 0 | get(0, 0) = 4 | "
            + "pin(0, 0, true) = 0\n";
        told("8 of a THING on PROBATION", thing, 1, 3, 41, 1, 7, 1, 1);
        told("8 of a THING on PROTECTED", thing + "get(0, 0) = 4\n", 2, 3, 41, 2, 7, 1, 0);
        told("8 of a GHOST of PROBATION", GHOST, 3, 9, -5, -5, -5, -5, 0);
        told("8 of a GHOST of PROTECTED", PROTECTED_GHOST, 4, 9, -5, -5, -5, -5, 0);
        told("8 of nothing", "", 0, -5, -5, -5, -5, -5, -5);
        told("8 of what was dropped", thing + "drop(0, 0) = 1\n", 0, -5, -5, -5, -5, -5, -5);
        told("8 of a GHOST that was dropped", GHOST + "drop(0, 0) = 3\n", 0, -5, -5, -5, -5, -5, -5);
        Script.play("8 its place there: 0 the oldest", """
            put(0, 0, 1, 1, 1) = 0 | put(0, 1, 1, 1, 1) = 0 | put(0, 2, 1, 1, 1) = 0 | of(0, 0, 6) = 0
            of(0, 1, 6) = 1 | of(0, 2, 6) = 2
            """);
        Script.play("8 its place among GHOSTS", """
            set(3, 0) = 1 | set(0, 3) = 20 | put(0, 0, 1, 1, 1) = 0 | put(0, 1, 1, 1, 1) = 0 | put(0, 2, 1, 1, 1) = 0
            put(0, 3, 1, 3, 1) = 0
            of(0, 0, 6) = 0 | of(0, 1, 6) = 1 | of(0, 2, 6) = 2 | of(0, 3, 6) = 0
            """);
    }

    private static void told(String title, String ahead, int... due) {
        for (int what = 0; what < due.length; what++) {
            Script.play(title, ahead + "of(0, 0, " + what + ") = " + due[what]);
        }
    }

    private static void key() {
        for (String where : new String[] {"0", "5", "-1", "6", "MIN", "MAX"}) {
            Script.play("9 NONE: where", "put(0, 0, 1, 1, 1) = 0 | key(" + where + ", 0) = NONE");
        }
        for (int where = 1; where < 5; where++) {
            Script.play("9 -5: none there", "key(" + where + ", 0) = -5 | key(" + where + ", 1) = -5 | key(" + where
                + ", MAX) = -5");
            Script.play("9 NONE: k is below 0", "key(" + where + ", -1) = NONE | key(" + where + ", MIN) = NONE");
        }
        Script.play("9 PROBATION, the last one and the one behind it", """
            put(0, 7, 1, 1, 1) = 0 | put(0, 5, 1, 1, 1) = 0 | key(1, 0) = 7 | key(1, 1) = 5 | key(1, 2) = -5
            key(1, MAX) = -5 | key(1, -1) = NONE
            """);
        Script.play("9 PROTECTED", """
            set(2, 1) = 2 | put(0, 7, 1, 1, 1) = 0 | get(0, 7) = 1 | key(2, 0) = 7 | key(2, 1) = -5
            key(2, -1) = NONE | key(1, 0) = -5
            """);
        Script.play("9 GHOSTS of PROBATION", GHOST + """
            key(3, 0) = 0 | key(3, 1) = -5 | key(3, -1) = NONE | key(4, 0) = -5
            """);
        Script.play("9 GHOSTS of PROTECTED", PROTECTED_GHOST + """
            key(4, 0) = 0 | key(4, 1) = -5 | key(4, -1) = NONE | key(3, 0) = -5
            """);
    }

    /** GONE: KEYS of those that WENT, the latest first (20 at most are kept). */
    private static void gone() {
        for (int went : new int[] {0, 1, 2, 19, 20, 21, 22, 45}) {
            StringBuilder lines = new StringBuilder("set(3, 0) = 1 | set(0, 1) = 20\n");
            for (int i = 0; i <= went; i++) {
                lines.append("put(2, ").append(i).append(", 1, 1, 1) = 0\n");
            }
            for (int k = 0; k < 23; k++) {
                lines.append("gone(").append(k).append(") = ").append(k < Math.min(went, 20) ? 200
                    + went - 1 - k : -5).append('\n');
            }
            Script.play("10 " + went + " went", lines + "told(13) = " + went
                + " | gone(MAX) = -5 | gone(-1) = NONE | gone(MIN) = NONE");
        }
        Script.play("10 of one TRIM the last that WENT is the latest", """
            set(3, 0) = 1 | put(0, 0, 1, 1, 1) = 0 | put(0, 1, 1, 1, 1) = 0 | put(0, 2, 1, 1, 1) = 0 | set(0, 1) = 20
            gone(0) = 1 | gone(1) = 0 | gone(2) = -5
            """);
        Script.play("10 a KEY is there as often as it WENT", """
            set(3, 0) = 1 | set(0, 1) = 20 | put(0, 0, 1, 1, 1) = 0 | put(0, 1, 1, 1, 1) = 0 | put(0, 0, 1, 1, 1) = 1
            gone(0) = 1 | put(0, 1, 1, 1, 1) = 1 | gone(0) = 0 | gone(1) = 1 | gone(2) = 0 | gone(3) = -5 | told(13) = 3
            """);
        Script.play("10 it stays told though the KEY is there again, or dropped", GHOST + """
            put(0, 0, 1, 1, 1) = 1 | gone(1) = 0 | drop(0, 0) = 2 | gone(1) = 0
            """);
        Script.play("10 those of PROTECTED as well", PROTECTED_GHOST + "gone(0) = 0 | gone(1) = -5");
    }
}
