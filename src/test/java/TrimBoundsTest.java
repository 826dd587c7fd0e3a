/** Bounds that TRIM and VICTIM (promise 11) name, each in a run of its own. */
final class TrimBoundsTest {
    /** Three protected ones, 3 each, the oldest 0, 0; CAPACITY 20, BORDER 10. */
    private static final String THREE = """
        set(2, 1) = 2 | put(0, 0, 1, 3, 1) = 0 | get(0, 0) = 1 | put(0, 1, 1, 3, 1) = 0 | get(0, 1) = 1
        put(0, 2, 1, 3, 1) = 0 | get(0, 2) = 1
        """;

    /**
     * On probation 0, 9 is pinned and weighs 1, protected are 0, 0 (5) and 0, 1 (4), all by CAPACITY and BORDER 10;
     * RISE is 9, so 0, 9 may be put again, heavier, and stays.
     */
    private static final String FULL_UP = """
        set(2, 1) = 2 | put(0, 0, 1, 5, 1) = 0 | get(0, 0) = 1 | put(0, 1, 1, 4, 1) = 0 | get(0, 1) = 1
        put(0, 9, 1, 1, 1) = 0 | pin(0, 9, true) = 0 | set(2, 9) = 1 | set(0, 10) = 20
        """;

    private TrimBoundsTest() {
    }

    public static void main(String[] args) {
        border();
        demoted();
        capacity();
        chances();
        goes();
        fromProtected();
        noneLoose();
        ghosts();
        ghostsOfProtected();
        order();
        victims();
        victimsOfChances();
        Script.end();
    }

    /** As long as PROTECTED weighs more than BORDER, and has one that isn't PINNED. */
    private static void border() {
        String rises = "set(2, 1) = 2 | put(0, 0, 1, 4, 1) = 0 | get(0, 0) = 1\n";
        Script.play("PROTECTED weighs less than BORDER", "set(1, 5) = 10\n" + rises + "of(0, 0, 0) = 2 | told(5) = 4");
        Script.play("PROTECTED weighs as much as BORDER", "set(1, 4) = 10\n" + rises + "of(0, 0, 0) = 2 | told(5) = 4");
        Script.play("PROTECTED weighs 1 more than BORDER", "set(1, 3) = 10\n" + rises + """
            of(0, 0, 0) = 1 | told(5) = 0 | told(4) = 4
            """);
        Script.play("BORDER 0: none is protected", """
            set(1, 0) = 10 | set(2, 1) = 2 | put(0, 0, 1, 1, 1) = 0 | get(0, 0) = 1 | of(0, 0, 0) = 1
            """);
        Script.play("BORDER 1: one is protected", """
            set(1, 1) = 10 | set(2, 1) = 2 | put(0, 0, 1, 1, 1) = 0 | get(0, 0) = 1 | of(0, 0, 0) = 2
            """);
        Script.play("three by BORDER 9", THREE + "set(1, 9) = 10 | count(1) = 3 | count(0) = 0");
        Script.play("three by BORDER 8: one comes", THREE + """
            set(1, 8) = 10 | count(1) = 2 | key(1, 0) = 0 | key(2, 0) = 1
            """);
        Script.play("three by BORDER 6: one comes", THREE + "set(1, 6) = 10 | count(1) = 2 | key(1, 0) = 0");
        Script.play("three by BORDER 5: two come", THREE + """
            set(1, 5) = 10 | count(1) = 1 | key(1, 0) = 0 | key(1, 1) = 1 | key(2, 0) = 2
            """);
        Script.play("three by BORDER 3: two come", THREE + "set(1, 3) = 10 | count(1) = 1 | key(2, 0) = 2");
        Script.play("three by BORDER 2: all come", THREE + """
            set(1, 2) = 10 | count(1) = 0 | key(1, 2) = 2 | told(5) = 0 | told(4) = 9
            """);
        Script.play("all PINNED stay", THREE + """
            pin(0, 0, true) = 0 | pin(0, 1, true) = 0 | pin(0, 2, true) = 0 | set(1, 0) = 10 | count(1) = 3
            told(5) = 9
            """);
        Script.play("the oldest is PINNED: the next one comes", THREE + """
            pin(0, 0, true) = 0 | set(1, 8) = 10 | key(2, 0) = 0 | key(2, 1) = 2 | key(1, 0) = 1 | key(1, 1) = -5
            """);
        Script.play("only the newest isn't PINNED", THREE + """
            pin(0, 0, true) = 0 | pin(0, 1, true) = 0 | set(1, 8) = 10 | key(1, 0) = 2 | count(1) = 2
            """);
        Script.play("as many as aren't PINNED come, though that isn't enough", THREE + """
            pin(0, 1, true) = 0 | set(1, 0) = 10 | key(1, 0) = 0 | key(1, 1) = 2 | key(2, 0) = 1 | told(5) = 3
            """);
        Script.play("none comes back by a greater BORDER", THREE + """
            set(1, 5) = 10 | set(1, 20) = 5 | count(1) = 1 | count(0) = 2
            """);
    }

    /** The oldest such is the newest of PROBATION, its HITS are 0. */
    private static void demoted() {
        Script.play("behind those on PROBATION", THREE + """
            put(0, 5, 1, 1, 1) = 0 | set(1, 8) = 10 | key(1, 0) = 5 | key(1, 1) = 0
            """);
        Script.play("HITS are 0", THREE + """
            get(0, 0) = 1 | of(0, 0, 3) = 2 | set(1, 2) = 10 | of(0, 0, 3) = 0 | of(0, 1, 3) = 0 | of(0, 2, 3) = 0
            """);
        Script.play("HITS of those that stay are as they were", THREE + """
            set(1, 8) = 10 | of(0, 0, 3) = 0 | of(0, 1, 3) = 1
            """);
        Script.play("CHANCES, WEIGHT, COST, VALUE are as they were", "set(3, 6) = 1\n" + """
            set(2, 1) = 2 | put(0, 0, 55, 3, 44) = 0 | get(0, 0) = 55 | set(3, 0) = 6 | set(1, 0) = 10
            of(0, 0, 4) = 6 | of(0, 0, 1) = 3 | of(0, 0, 2) = 44 | of(0, 0, 5) = 0 | get(0, 0) = 55
            """);
        Script.play("it needs RISE HITS again", """
            put(0, 0, 1, 1, 1) = 0 | get(0, 0) = 1 | get(0, 0) = 1 | of(0, 0, 0) = 2 | set(1, 0) = 10 | set(1, 10) = 0
            get(0, 0) = 1 | of(0, 0, 0) = 1 | get(0, 0) = 1 | of(0, 0, 0) = 2
            """);
        Script.play("it doesn't go by it, and is no GHOST", THREE + """
            set(1, 0) = 10 | told(13) = 0 | count(2) = 0 | count(3) = 0
            """);
        Script.play("it comes ahead of what goes: all on PROBATION are older", """
            set(3, 0) = 1 | set(2, 1) = 2 | put(0, 0, 1, 5, 1) = 0 | get(0, 0) = 1 | put(0, 1, 1, 5, 1) = 0
            set(0, 4) = 20
            gone(0) = 0 | gone(1) = 1 | told(13) = 2
            """);
    }

    /** As long as both QUEUES weigh more than CAPACITY, together. */
    private static void capacity() {
        String nineteen = "set(3, 0) = 1 | put(0, 0, 1, 9, 1) = 0 | put(0, 1, 1, 9, 1) = 0 | put(0, 2, 1, 1, 1) = 0\n";
        Script.play("both QUEUES weigh less than CAPACITY", nineteen + "told(4) = 19 | told(13) = 0");
        Script.play("both weigh as much as CAPACITY", nineteen + """
            put(0, 3, 1, 1, 1) = 0 | told(4) = 20 | told(13) = 0
            """);
        Script.play("both weigh 1 more than CAPACITY", nineteen + """
            put(0, 3, 1, 2, 1) = 0 | told(4) = 12 | told(13) = 1 | gone(0) = 0
            """);
        String risen = "set(2, 1) = 2\n" + nineteen + "get(0, 0) = 1\n";
        Script.play("together as much, PROBATION alone less", risen + """
            put(0, 3, 1, 1, 1) = 0 | told(4) = 11 | told(5) = 9 | told(13) = 0
            """);
        Script.play("together 1 more, PROBATION alone less: its oldest goes", risen + """
            put(0, 3, 1, 2, 1) = 0 | gone(0) = 1 | told(4) = 3 | told(5) = 9
            """);
        String one = "set(3, 0) = 1 | put(0, 0, 1, 5, 1) = 0 | put(0, 1, 1, 5, 1) = 0 | put(0, 2, 1, 5, 1) = 0\n";
        Script.play("as long as: CAPACITY 15, none goes", one + "set(0, 15) = 20 | told(13) = 0");
        Script.play("as long as: CAPACITY 14, one goes", one + "set(0, 14) = 20 | told(13) = 1 | key(1, 0) = 1");
        Script.play("as long as: CAPACITY 10, one goes", one + "set(0, 10) = 20 | told(13) = 1");
        Script.play("as long as: CAPACITY 9, two go", one + "set(0, 9) = 20 | told(13) = 2 | key(1, 0) = 2");
        Script.play("as long as: CAPACITY 5, two go", one + "set(0, 5) = 20 | told(13) = 2");
        Script.play("as long as: CAPACITY 4, all go", one + """
            set(0, 4) = 20 | told(13) = 3 | count(0) = 0 | told(4) = 0
            """);
        Script.play("by CAPACITY 1 one of weight 1 stays", """
            set(0, 1) = 20 | put(0, 0, 1, 1, 1) = 0 | of(0, 0, 0) = 1 | told(13) = 0
            """);
        StringBuilder most = new StringBuilder("set(0, 99) = 20 | set(3, 0) = 1\n");
        for (int i = 0; i < 99; i++) {
            most.append("put(0, ").append(i).append(", 1, 1, 1) = 0\n");
        }
        Script.play("by CAPACITY 99 there are 99 of weight 1", most + "count(0) = 99 | told(4) = 99 | told(13) = 0");
        Script.play("by CAPACITY 99 the hundredth lets the oldest go", most + """
            put(3, 99, 1, 1, 1) = 0 | count(0) = 99 | gone(0) = 0 | key(1, 98) = 399
            """);
    }

    /** If it has CHANCES, these are 1 less, and it is the newest of PROBATION. */
    private static void chances() {
        Script.play("CHANCES 1: spent, the newest", """
            set(0, 2) = 20 | put(0, 0, 1, 1, 1) = 0 | set(3, 0) = 1 | put(0, 1, 1, 1, 1) = 0 | put(0, 2, 1, 1, 1) = 0
            of(0, 0, 4) = 0 | key(1, 0) = 2 | key(1, 1) = 0 | gone(0) = 1 | told(13) = 1
            """);
        Script.play("CHANCES 2: one is left", """
            set(0, 2) = 20 | set(3, 2) = 1 | put(0, 0, 1, 1, 1) = 0 | set(3, 0) = 2 | put(0, 1, 1, 1, 1) = 0
            put(0, 2, 1, 1, 1) = 0
            of(0, 0, 4) = 1 | gone(0) = 1
            """);
        Script.play("CHANCES 0: it goes at once", """
            set(0, 2) = 20 | set(3, 0) = 1 | put(0, 0, 1, 1, 1) = 0 | set(3, 9) = 0 | put(0, 1, 1, 1, 1) = 0
            put(0, 2, 1, 1, 1) = 0
            gone(0) = 0 | of(0, 1, 4) = 9 | of(0, 2, 4) = 9
            """);
        Script.play("all have CHANCES: each spends one, then the first goes", """
            set(0, 2) = 20 | put(0, 0, 1, 1, 1) = 0 | put(0, 1, 1, 1, 1) = 0 | put(0, 2, 1, 1, 1) = 0
            gone(0) = 0 | of(0, 1, 4) = 0 | of(0, 2, 4) = 0 | key(1, 0) = 1 | key(1, 1) = 2
            """);
        Script.play("CHANCES 9, alone: all are spent in one TRIM", """
            set(3, 9) = 1 | put(0, 0, 1, 9, 1) = 0 | set(0, 8) = 20 | told(13) = 1 | gone(0) = 0 | count(0) = 0
            """);
        Script.play("only as many are spent as need be", """
            set(3, 3) = 1 | set(0, 3) = 20 | put(0, 0, 1, 1, 1) = 0 | put(0, 1, 1, 1, 1) = 0 | set(3, 0) = 3
            put(0, 2, 1, 1, 1) = 0
            put(0, 3, 1, 1, 1) = 0 | of(0, 0, 4) = 2 | of(0, 1, 4) = 2 | gone(0) = 2 | key(1, 0) = 3 | key(1, 1) = 0
            key(1, 2) = 1
            """);
        Script.play("a PINNED one keeps its CHANCES and its place", """
            set(0, 2) = 20 | put(0, 0, 1, 1, 1) = 0 | pin(0, 0, true) = 0 | put(0, 1, 1, 1, 1) = 0
            put(0, 2, 1, 1, 1) = 0
            of(0, 0, 4) = 1 | of(0, 0, 6) = 0 | gone(0) = 1 | of(0, 2, 4) = 0
            """);
        Script.play("CHANCES that are spent don't come back by a HIT", """
            set(2, 9) = 2 | set(0, 2) = 20 | put(0, 0, 1, 1, 1) = 0 | set(3, 0) = 1 | put(0, 1, 1, 1, 1) = 0
            put(0, 2, 1, 1, 1) = 0
            of(0, 0, 4) = 0 | set(3, 5) = 0 | get(0, 0) = 1 | put(0, 0, 1, 1, 1) = 2 | of(0, 0, 4) = 0
            """);
        Script.play("HITS stay by a chance", """
            set(2, 9) = 2 | set(0, 2) = 20 | put(0, 0, 1, 1, 1) = 0 | get(0, 0) = 1 | set(3, 0) = 1
            put(0, 1, 1, 1, 1) = 0
            put(0, 2, 1, 1, 1) = 0 | of(0, 0, 4) = 0 | of(0, 0, 3) = 1
            """);
        Script.play("CHANCES of what comes from PROTECTED count again", """
            set(2, 1) = 2 | put(0, 0, 1, 2, 1) = 0 | get(0, 0) = 1 | set(3, 0) = 1 | put(0, 1, 1, 2, 1) = 0
            set(1, 0) = 10
            set(0, 3) = 20 | gone(0) = 1 | of(0, 0, 0) = 1 | of(0, 0, 4) = 1 | set(0, 2) = 3 | of(0, 0, 4) = 1
            """);
    }

    /** Else it GOES, its KEY is the newest GHOST of PROBATION. */
    private static void goes() {
        Script.play("the newest GHOST", """
            set(3, 0) = 1 | set(0, 2) = 20 | put(0, 5, 1, 1, 1) = 0 | put(0, 3, 1, 1, 1) = 0 | put(0, 4, 1, 2, 1) = 0
            key(3, 0) = 5 | key(3, 1) = 3 | gone(0) = 3 | gone(1) = 5
            """);
        Script.play("it is a THING no more", """
            set(3, 0) = 1 | set(0, 2) = 20 | put(0, 5, 1, 2, 1) = 0 | put(0, 3, 1, 2, 1) = 0 | of(0, 5, 0) = 3
            of(0, 5, 2) = -5 | count(0) = 1 | told(4) = 2
            """);
        Script.play("the GHOST has its WEIGHT", """
            set(3, 0) = 1 | put(0, 5, 1, 2, 1) = 0 | put(0, 5, 1, 7, 1) = 2 | put(0, 3, 1, 7, 1) = 0
            put(0, 4, 1, 7, 1) = 0 | of(0, 5, 0) = 3 | of(0, 5, 1) = 7 | told(6) = 7
            """);
        Script.play("a PINNED one doesn't go, the next does", """
            set(3, 0) = 1 | set(0, 2) = 20 | put(0, 0, 1, 1, 1) = 0 | pin(0, 0, true) = 0 | put(0, 1, 1, 1, 1) = 0
            put(0, 2, 1, 1, 1) = 0
            of(0, 0, 0) = 1 | of(0, 1, 0) = 3 | of(0, 2, 0) = 1
            """);
        Script.play("a PINNED one no more goes", """
            set(3, 0) = 1 | set(0, 2) = 20 | put(0, 0, 1, 1, 1) = 0 | pin(0, 0, true) = 0 | put(0, 1, 1, 1, 1) = 0
            pin(0, 0, false) = 1
            put(0, 2, 1, 1, 1) = 0 | of(0, 0, 0) = 3
            """);
    }

    /** If there is none in PROBATION that isn't PINNED: the oldest of PROTECTED that isn't GOES. */
    private static void fromProtected() {
        Script.play("room enough: none goes", FULL_UP + "told(13) = 0 | told(4) = 1 | told(5) = 9");
        Script.play("1 too much: the oldest protected goes", FULL_UP + """
            put(0, 9, 1, 2, 1) = 2 | gone(0) = 0 | told(13) = 1 | of(0, 0, 0) = 4 | of(0, 1, 0) = 2
            """);
        Script.play("the oldest makes enough room", FULL_UP + """
            put(0, 9, 1, 6, 1) = 2 | told(13) = 1 | told(4) = 6 | told(5) = 4
            """);
        Script.play("1 more: the next one goes, too", FULL_UP + """
            put(0, 9, 1, 7, 1) = 2 | told(13) = 2 | gone(0) = 1 | gone(1) = 0 | key(4, 0) = 0 | key(4, 1) = 1
            """);
        Script.play("its CHANCES don't help, and aren't looked at", FULL_UP + """
            of(0, 0, 4) = 1 | put(0, 9, 1, 2, 1) = 2 | of(0, 0, 0) = 4 | of(0, 1, 4) = 1
            """);
        Script.play("the oldest is PINNED: the next one goes", FULL_UP + """
            pin(0, 0, true) = 0 | put(0, 9, 1, 2, 1) = 2 | gone(0) = 1 | of(0, 0, 0) = 2 | of(0, 1, 0) = 4
            """);
        Script.play("none of PROTECTED goes as long as one on PROBATION isn't PINNED", FULL_UP + """
            set(3, 0) = 1 | put(0, 8, 1, 9, 1) = 0 | gone(0) = 8 | told(13) = 1 | told(5) = 9 | of(0, 8, 0) = 3
            """);
        Script.play("first the loose one on PROBATION, then one of PROTECTED", FULL_UP + """
            drop(0, 1) = 2 | set(3, 0) = 1 | put(0, 8, 1, 4, 1) = 0 | told(13) = 0 | put(0, 9, 1, 9, 1) = 2
            gone(1) = 8 | gone(0) = 0 | of(0, 8, 0) = 3 | of(0, 0, 0) = 4 | told(4) = 9 | told(5) = 0
            """);
        Script.play("the GHOST is of PROTECTED, with its WEIGHT", FULL_UP + """
            put(0, 9, 1, 2, 1) = 2 | of(0, 0, 1) = 5 | told(7) = 5 | told(6) = 0 | count(2) = 0
            """);
    }

    /** If there is none either, that is all. */
    private static void noneLoose() {
        String pinned = FULL_UP + "pin(0, 0, true) = 0 | pin(0, 1, true) = 0\n";
        Script.play("all are PINNED: they weigh more than CAPACITY", pinned + """
            put(0, 9, 1, 9, 1) = 2 | told(4) = 9 | told(5) = 9 | told(13) = 0
            """);
        Script.play("all are PINNED: CAPACITY 1", pinned + """
            set(0, 1) = 10 | told(4) = 1 | told(5) = 9 | told(13) = 0 | told(1) = 1
            """);
        Script.play("all are PINNED: what is new goes at once", pinned + """
            set(3, 9) = 1 | put(0, 8, 1, 1, 1) = 0 | of(0, 8, 0) = 3 | gone(0) = 8 | told(13) = 1
            """);
        Script.play("none is there at all", "set(0, 1) = 20 | set(1, 0) = 1 | told(13) = 0");
        Script.play("then GHOSTS are less all the same", """
            set(3, 0) = 1 | set(0, 9) = 20 | put(0, 0, 1, 6, 1) = 0 | put(0, 1, 1, 9, 1) = 0 | pin(0, 1, true) = 0
            told(6) = 6 | set(0, 6) = 9 | told(6) = 6 | set(0, 5) = 6 | told(6) = 0 | told(4) = 9 | told(13) = 1
            """);
    }

    /** Of GHOSTS of either, as long as they weigh more than CAPACITY, the oldest is one no more. */
    private static void ghosts() {
        String two = "set(3, 0) = 1 | set(0, 5) = 20 | put(0, 0, 1, 3, 1) = 0 | put(0, 1, 1, 2, 1) = 0 | "
            + "put(0, 2, 1, 5, 1) = 0\n";
        Script.play("GHOSTS weigh as much as CAPACITY", two + """
            told(6) = 5 | key(3, 0) = 0 | key(3, 1) = 1 | key(3, 2) = -5
            """);
        Script.play("GHOSTS weigh 1 more: the oldest is one no more", """
            set(3, 0) = 1 | set(0, 5) = 20 | put(0, 0, 1, 3, 1) = 0 | put(0, 1, 1, 3, 1) = 0 | put(0, 2, 1, 3, 1) = 0
            told(6) = 3 | key(3, 0) = 1 | key(3, 1) = -5 | of(0, 0, 0) = 0
            """);
        Script.play("as long as: two are ones no more", two + """
            put(0, 3, 1, 5, 1) = 0 | told(6) = 5 | key(3, 0) = 2 | key(3, 1) = -5 | of(0, 0, 0) = 0 | of(0, 1, 0) = 0
            """);
        Script.play("only as many as need be", two + """
            put(0, 3, 1, 1, 1) = 0 | told(6) = 5 | key(3, 0) = 2 | set(0, 4) = 5 | told(6) = 0
            """);
        Script.play("by less CAPACITY: as much as they weigh", two + "drop(0, 2) = 1 | set(0, 5) = 5 | told(6) = 5");
        Script.play("by less CAPACITY: 1 less, the oldest is one no more", two + """
            drop(0, 2) = 1 | set(0, 4) = 5 | told(6) = 2 | key(3, 0) = 1
            """);
        Script.play("by less CAPACITY: less than the newest weighs, none is left", two + """
            drop(0, 2) = 1 | set(0, 1) = 5 | told(6) = 0 | count(2) = 0 | of(0, 1, 0) = 0
            """);
        Script.play("one that weighs more than CAPACITY is none", """
            set(3, 0) = 1 | put(0, 0, 1, 9, 1) = 0 | set(0, 8) = 20 | of(0, 0, 0) = 0 | told(6) = 0 | gone(0) = 0
            told(13) = 1
            """);
        Script.play("one that weighs as much as CAPACITY is one", """
            set(3, 0) = 1 | put(0, 0, 1, 4, 1) = 0 | put(0, 1, 1, 4, 1) = 0 | set(0, 4) = 20 | of(0, 0, 0) = 3
            told(6) = 4 | told(13) = 1
            """);
        Script.play("a put by a GHOST makes room among GHOSTS", two + """
            put(0, 0, 1, 1, 1) = 1 | key(3, 0) = 2 | told(6) = 5 | of(0, 1, 0) = 0
            """);
        Script.play("GHOSTS come back by no greater CAPACITY", two + "set(0, 1) = 5 | set(0, 99) = 1 | count(2) = 0");
    }

    private static void ghostsOfProtected() {
        String two = FULL_UP + "put(0, 9, 1, 9, 1) = 2 | put(0, 9, 1, 1, 1) = 2\n";
        Script.play("GHOSTS of PROTECTED", two + """
            key(4, 0) = 0 | key(4, 1) = 1 | told(7) = 9 | told(4) = 1 | told(13) = 2
            """);
        String third = "set(2, 1) = 9 | get(0, 2) = 1 | set(2, 9) = 1 | put(0, 9, 1, 9, 1) = 2\n";
        Script.play("GHOSTS of PROTECTED weigh 10 by 9: the oldest is one no more", two
            + "put(0, 2, 1, 1, 1) = 0 | set(0, 9) = 10\n" + third
            + "told(13) = 3 | told(7) = 5 | key(4, 0) = 1 | key(4, 1) = 2 | of(0, 0, 0) = 0");
        Script.play("GHOSTS of PROTECTED weigh 10 by 10", two + "put(0, 2, 1, 1, 1) = 0 | put(0, 3, 1, 1, 1) = 0 | "
            + "pin(0, 3, true) = 0\n" + third
            + "gone(0) = 2 | told(13) = 3 | told(7) = 10 | key(4, 0) = 0 | key(4, 1) = 1 | key(4, 2) = 2");
        Script.play("GHOSTS of PROTECTED weigh 11 by 10: the oldest is one no more", two + "put(0, 2, 1, 2, 1) = 0\n"
            + third
            + "told(7) = 6 | key(4, 0) = 1 | key(4, 1) = 2 | key(4, 2) = -5 | of(0, 0, 0) = 0");
        Script.play("by less CAPACITY: as much as they weigh", two + "set(0, 9) = 10 | told(7) = 9");
        Script.play("by less CAPACITY: 1 less, the oldest is one no more", two + """
            set(0, 8) = 10 | told(7) = 4 | key(4, 0) = 1
            """);
        Script.play("by less CAPACITY: as much as the newest weighs", two + "set(0, 4) = 10 | told(7) = 4");
        Script.play("by less CAPACITY: none is left", two + "set(0, 3) = 10 | told(7) = 0 | count(3) = 0");
        Script.play("either are weighed for themselves", two + """
            put(0, 5, 1, 9, 1) = 0 | put(0, 6, 1, 9, 1) = 0 | told(6) = 9 | told(7) = 9 | set(0, 9) = 10 | told(6) = 9
            told(7) = 9
            """);
        Script.play("a GHOST of PROTECTED that weighs as much as CAPACITY", """
            set(2, 1) = 2 | put(0, 0, 1, 5, 1) = 0 | get(0, 0) = 1 | put(0, 1, 1, 5, 1) = 0 | pin(0, 1, true) = 0
            set(0, 5) = 20
            of(0, 0, 0) = 4 | told(7) = 5
            """);
    }

    /** First PROTECTED, then both QUEUES, then GHOSTS. */
    private static void order() {
        Script.play("what comes to PROBATION may go in the same TRIM", """
            set(3, 0) = 1 | set(2, 1) = 2 | put(0, 0, 1, 9, 1) = 0 | get(0, 0) = 1 | set(0, 8) = 20
            told(13) = 1 | gone(0) = 0 | told(5) = 0 | told(4) = 0
            """);
        Script.play("it goes as one of PROBATION", """
            set(3, 0) = 1 | set(2, 1) = 2 | put(0, 0, 1, 4, 1) = 0 | get(0, 0) = 1 | put(0, 1, 1, 4, 1) = 0
            pin(0, 1, true) = 0
            set(1, 4) = 10 | set(0, 7) = 20 | of(0, 0, 0) = 4
            """);
        Script.play("by BORDER 1 less it goes as one of PROBATION", """
            set(3, 0) = 1 | set(2, 1) = 2 | put(0, 0, 1, 4, 1) = 0 | get(0, 0) = 1 | put(0, 1, 1, 4, 1) = 0
            pin(0, 1, true) = 0
            set(1, 3) = 10 | of(0, 0, 0) = 1 | set(0, 7) = 20 | of(0, 0, 0) = 3
            """);
        Script.play("CAPACITY less, BORDER as much: it stays ahead of what goes from PROBATION", """
            set(3, 0) = 1 | set(2, 1) = 2 | put(0, 0, 1, 4, 1) = 0 | get(0, 0) = 1 | put(0, 1, 1, 1, 1) = 0
            pin(0, 1, true) = 0
            set(0, 4) = 20 | told(1) = 4 | of(0, 0, 0) = 4
            """);
        Script.play("BORDER is less by CAPACITY ahead of TRIM, so it goes as one of PROBATION", """
            set(3, 0) = 1 | set(2, 1) = 2 | put(0, 0, 1, 3, 1) = 0 | get(0, 0) = 1 | put(0, 1, 1, 3, 1) = 0
            get(0, 1) = 1
            set(0, 5) = 20 | told(1) = 5 | of(0, 0, 0) = 3 | of(0, 1, 0) = 2
            """);
        Script.play("BORDER is less by a GHOST ahead of TRIM", """
            set(3, 0) = 1 | set(2, 1) = 2 | set(0, 9) = 20 | put(0, 0, 1, 5, 1) = 0 | put(0, 1, 1, 4, 1) = 0
            get(0, 1) = 1
            put(0, 2, 1, 5, 1) = 0 | of(0, 0, 0) = 3 | put(0, 0, 1, 3, 1) = 1 | told(1) = 6 | of(0, 1, 0) = 1
            of(0, 0, 0) = 2
            """);
        Script.play("a GHOST that is put is one no more ahead of TRIM", """
            set(3, 0) = 1 | set(0, 5) = 20 | put(0, 0, 1, 2, 1) = 0 | put(0, 1, 1, 3, 1) = 0 | put(0, 2, 1, 3, 1) = 0
            put(0, 3, 1, 2, 1) = 0
            put(0, 1, 1, 1, 1) = 1 | key(3, 0) = 0 | key(3, 1) = 2 | key(3, 2) = -5 | told(6) = 5
            """);
        Script.play("a KEY that goes again is the newest GHOST", """
            set(3, 0) = 1 | set(0, 3) = 20 | set(1, 0) = 3 | put(0, 0, 1, 1, 1) = 0 | put(0, 1, 1, 1, 1) = 0
            put(0, 2, 1, 1, 1) = 0
            put(0, 3, 1, 1, 1) = 0 | put(0, 4, 1, 1, 1) = 0 | key(3, 0) = 0 | key(3, 1) = 1 | put(0, 0, 1, 1, 1) = 1
            key(3, 0) = 1 | key(3, 1) = 2
            put(0, 5, 1, 1, 1) = 0 | put(0, 6, 1, 1, 1) = 0 | put(0, 7, 1, 1, 1) = 0 | key(3, 0) = 3 | key(3, 1) = 4
            key(3, 2) = 0 | key(3, 3) = -5
            """);
    }

    /** Of all that would GO, one behind another, were CAPACITY 0 from now on (BORDER 0, TRIM), number k. */
    private static void victims() {
        String four = "set(3, 0) = 1 | set(2, 1) = 2 | put(0, 0, 1, 1, 1) = 0 | get(0, 0) = 1 | "
            + "put(0, 1, 1, 1, 1) = 0 | put(0, 2, 1, 1, 1) = 0 | put(0, 3, 1, 1, 1) = 0\n";
        Script.play("11 NONE: k is below 0", four + "victim(-1) = NONE | victim(MIN) = NONE");
        Script.play("11 NONE also if there is none", "victim(-1) = NONE | victim(MIN) = NONE");
        Script.play("11 -5 if there is none", "victim(0) = -5 | victim(MAX) = -5");
        Script.play("11 number 0 and the last", four + "victim(0) = 1 | victim(3) = 0");
        Script.play("11 -5: not so many", four + """
            victim(4) = -5 | victim(5) = -5 | victim(400) = -5 | victim(MAX) = -5
            """);
        Script.play("11 PROTECTED ones come behind those on PROBATION", four + """
            victim(0) = 1 | victim(1) = 2 | victim(2) = 3 | victim(3) = 0
            """);
        Script.play("11 of PROTECTED the oldest first", THREE + """
            set(3, 0) = 1 | victim(0) = 0 | victim(1) = 1 | victim(2) = 2 | victim(3) = -5
            """);
        Script.play("11 PINNED ones don't go", four + """
            pin(0, 0, true) = 0 | pin(0, 2, true) = 0 | victim(0) = 1 | victim(1) = 3 | victim(2) = -5
            """);
        Script.play("11 none if all are PINNED", "put(0, 0, 1, 1, 1) = 0 | pin(0, 0, true) = 0 | victim(0) = -5");
        Script.play("11 what went before is none", """
            set(3, 0) = 1 | set(0, 1) = 20 | put(0, 0, 1, 1, 1) = 0 | put(0, 1, 1, 1, 1) = 0 | victim(0) = 1
            victim(1) = -5
            """);
        Script.play("11 it only asks", four + """
            victim(0) = 1 | told(0) = 20 | told(1) = 10 | told(13) = 0 | gone(0) = -5 | count(0) = 3 | count(1) = 1
            count(2) = 0 | of(0, 0, 3) = 1
            """);
        StringBuilder many = new StringBuilder("set(3, 0) = 1 | set(0, 30) = 20\n");
        for (int i = 0; i < 25; i++) {
            many.append("put(0, ").append(i).append(", 1, 1, 1) = 0\n");
        }
        Script.play("11 more than the 20 of gone", many + """
            victim(0) = 0 | victim(19) = 19 | victim(20) = 20 | victim(24) = 24 | victim(25) = -5
            """);
        Script.play("11 no border saves: things of weight 1 by CAPACITY 0", """
            set(0, 1) = 20 | set(2, 1) = 2 | put(0, 0, 1, 1, 1) = 0 | get(0, 0) = 1 | victim(0) = 0 | victim(1) = -5
            """);
    }

    private static void victimsOfChances() {
        Script.play("11 CHANCES are spent ahead of going", """
            put(0, 0, 1, 1, 1) = 0 | set(3, 0) = 1 | put(0, 1, 1, 1, 1) = 0 | victim(0) = 1 | victim(1) = 0
            of(0, 0, 4) = 1
            """);
        Script.play("11 more CHANCES, later", """
            set(3, 2) = 1 | put(0, 0, 1, 1, 1) = 0 | set(3, 1) = 2 | put(0, 1, 1, 1, 1) = 0 | set(3, 0) = 1
            put(0, 2, 1, 1, 1) = 0
            victim(0) = 2 | victim(1) = 1 | victim(2) = 0 | victim(3) = -5
            """);
        Script.play("11 CHANCES 9 are spent as well", """
            set(3, 9) = 1 | put(0, 0, 1, 1, 1) = 0 | put(0, 1, 1, 1, 1) = 0 | victim(0) = 0 | victim(1) = 1
            """);
        Script.play("11 a PROTECTED one's CHANCES count, for it comes to PROBATION", """
            set(2, 1) = 2 | put(0, 0, 1, 1, 1) = 0 | get(0, 0) = 1 | set(3, 0) = 1 | put(0, 1, 1, 1, 1) = 0
            get(0, 1) = 1
            victim(0) = 1 | victim(1) = 0
            """);
    }
}
