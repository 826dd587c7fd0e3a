/** Bounds that promises 15 to 18 name, each in a run of its own: would, need, odds, mean. */
final class AskBoundsTest {
    /** The key 0, 0 weighs 9 by CAPACITY 5, and would go by a trim. */
    private static final String DUE = """
        set(3, 0) = 1 | put(0, 0, 77, 9, 4) = 0 | pin(0, 0, true) = 0 | set(0, 5) = 20 | pin(0, 0, false) = 1
        """;

    private static final String TWENTY_GETS = "put(0, 1, 1, 1, 1) = 0 | trace(\"" + "ga1;".repeat(19) + "ga1\") = 0\n";

    private AskBoundsTest() {
    }

    public static void main(String[] args) {
        refused();
        would();
        wouldByGhosts();
        needAtItsEnds();
        needByBorders();
        oddsAtTheirEnds();
        oddsByBorders();
        mean();
        Script.end();
    }

    private static void refused() {
        String one = "trace(\"pa1=1;ga1\") = 0\n";
        for (String trace : new String[] {"-1", "1", "6", "MIN", "MAX"}) {
            Script.play("15 NONE: trace", one + "would(" + trace + ", 0) = NONE | would(" + trace + ", 5) = NONE");
            Script.play("16 NONE: trace", one + "need(" + trace + ", 0) = NONE | need(" + trace + ", 20) = NONE");
            Script.play("17 NO: trace", one + "odds(" + trace + ", 0, 0) = NO | odds(" + trace + ", 20, 1) = NO");
            Script.play("16 NONE ahead of BAD", one + "need(" + trace + ", 21) = NONE | need(" + trace + """
                , -1) = NONE
                """);
        }
        for (String what : new String[] {"-1", "6", "7", "MIN", "MAX"}) {
            Script.play("15 NONE: what", one + "would(0, " + what + ") = NONE | would(1, " + what + ") = NONE");
        }
        for (String h : new String[] {"-1", "21", "22", "MIN", "MAX"}) {
            Script.play("16 BAD: h", one + "need(0, " + h + ") = BAD");
            Script.play("17 NO: h", one + "odds(0, " + h + ", 0) = NO | odds(0, " + h + ", 1) = NO");
        }
        for (String part : new String[] {"-1", "2", "MIN", "MAX"}) {
            Script.play("17 NO: part", one + "odds(0, 0, " + part + ") = NO | odds(0, 1, " + part + ") = NO");
            Script.play("18 NO: part", "put(0, 0, 1, 1, 5) = 0 | mean(1, " + part + ") = NO");
        }
        for (String where : new String[] {"0", "3", "4", "-1", "MIN", "MAX"}) {
            Script.play("18 NO: where", "put(0, 0, 1, 1, 5) = 0 | mean(" + where + ", 0) = NO | mean(" + where + """
                , 1) = NO
                """);
        }
        for (int what = 0; what < 6; what++) {
            Script.play("15 NONE: there is no TRACE", "would(0, " + what + ") = NONE");
        }
        Script.play("15 to 17 the last of 6 traces, and none behind it", """
            trace("ga0") = 0 | trace("ga0") = 1 | trace("ga0") = 2 | trace("ga0") = 3 | trace("ga0") = 4
            trace("pa5=5;ga5") = 5
            would(5, 0) = 1 | need(5, 1) = 5 | odds(5, 1, 0) = 1 | would(6, 0) = NONE | need(6, 1) = NONE
            odds(6, 1, 0) = NO
            """);
    }

    private static void would() {
        Script.play("15 HAD would grow by, however many were HAD", TWENTY_GETS + """
            get(0, 1) = 1 | get(0, 1) = 1 | would(0, 0) = 20 | told(8) = 2
            """);
        Script.play("15 HAD would not grow", """
            put(0, 1, 1, 1, 1) = 0 | get(0, 1) = 1 | trace("xa1;ga1") = 0 | would(0, 0) = 0
            """);
        Script.play("15 MISSED would grow by, however many were MISSED", """
            get(0, 5) = NO | get(0, 5) = NO | get(0, 5) = NO | trace("ga1;gd99") = 0 | would(0, 1) = 2 | told(9) = 3
            """);
        Script.play("15 MISSED would not grow", """
            get(0, 5) = NO | put(0, 1, 1, 1, 1) = 0 | trace("ga1") = 0 | would(0, 1) = 0
            """);
        Script.play("15 BORDER then, if none moves it", "set(1, 7) = 10 | trace(\"ga1\") = 0 | would(0, 3) = 7");
        Script.play("15 WEIGHT of both QUEUES then", """
            set(2, 1) = 2 | put(0, 1, 1, 5, 1) = 0 | get(0, 1) = 1 | put(0, 2, 1, 4, 1) = 0 | trace("pa3=2") = 0
            would(0, 4) = 11 | told(4) = 4 | told(5) = 5
            """);
        Script.play("15 WEIGHT of nothing", "trace(\"ga1\") = 0 | would(0, 4) = 0");
        Script.play("15 WEIGHT of nothing then", "put(0, 1, 1, 5, 1) = 0 | trace(\"xa1\") = 0 | would(0, 4) = 0");
        Script.play("15 how many would have WENT by it, however many WENT", """
            set(3, 0) = 1 | set(0, 1) = 20 | put(0, 1, 1, 1, 1) = 0 | put(0, 2, 1, 1, 1) = 0 | put(0, 3, 1, 1, 1) = 0
            trace("pa4=1;pa5=1;pa6=1") = 0 | would(0, 5) = 3 | told(13) = 2
            """);
        Script.play("15 none would have WENT", """
            set(3, 0) = 1 | set(0, 1) = 20 | put(0, 1, 1, 1, 1) = 0 | put(0, 2, 1, 1, 1) = 0 | trace("xa2;pa5=1") = 0
            would(0, 5) = 0
            """);
        Script.play("15 more than 20 would have WENT in all", "set(3, 0) = 1 | set(0, 1) = 20 | "
            + "put(0, 99, 1, 1, 1) = 0 | trace(\""
            + "pb1=1;pb2=1;pb3=1;pb4=1;pb5=1;pb6=1;pb7=1;pb8=1;pc1=1;pc2=1;pc3=1;pc4=1;pc5=1;pc6=1;pd1=1;pd2=1\") = 0\n"
            + "run(0) = 0 | told(13) = 16 | would(0, 5) = 16 | run(0) = 0 | told(13) = 32 | would(0, 5) = 16");
        Script.play("15 no TRIM ahead of it", DUE + "trace(\"gb0\") = 0 | would(0, 4) = 9 | would(0, 5) = 0");
        Script.play("15 no TRIM ahead of it: it is GOT", DUE + """
            trace("ga0") = 0 | would(0, 0) = 1 | would(0, 1) = 0 | would(0, 4) = 0 | would(0, 5) = 1
            """);
        Script.play("15 a WEIGHT above CAPACITY is left out", """
            set(0, 4) = 20 | trace("pa1=5;ga1") = 0 | would(0, 0) = 0 | would(0, 4) = 0 | would(0, 1) = 1
            """);
        Script.play("15 asked twice it tells the same", TWENTY_GETS + """
            would(0, 0) = 20 | would(0, 0) = 20 | of(0, 1, 3) = 0 | told(8) = 0
            """);
    }

    private static void wouldByGhosts() {
        String ghost = "set(3, 0) = 1 | set(0, 4) = 20 | put(0, 1, 1, 4, 1) = 0 | put(0, 2, 1, 4, 1) = 0\n";
        Script.play("15 HAUNTED would grow by, however many were HAUNTED", ghost + """
            get(0, 1) = NO | get(0, 5) = NO | get(0, 5) = NO | trace("ga1;ga1;ga3") = 0 | would(0, 2) = 2
            would(0, 1) = 3 | told(10) = 1
            """);
        Script.play("15 HAUNTED would not grow", ghost + """
            get(0, 1) = NO | trace("ga3;ga2") = 0 | would(0, 2) = 0 | would(0, 1) = 1
            """);
        Script.play("15 BORDER then: less", ghost + "trace(\"pa1=3\") = 0 | would(0, 3) = 1 | told(1) = 4");
        Script.play("15 BORDER then: 0 at least", ghost + "trace(\"pa1=4\") = 0 | would(0, 3) = 0 | told(1) = 4");
        Script.play("15 BORDER then: more, CAPACITY at most", """
            set(2, 1) = 2 | put(0, 0, 1, 9, 1) = 0 | get(0, 0) = 1 | put(0, 1, 1, 9, 1) = 0 | pin(0, 1, true) = 0
            set(0, 10) = 20
            set(1, 3) = 10 | trace("pa0=2") = 0 | trace("pa0=7") = 1 | trace("pa0=8") = 2 | would(0, 3) = 5
            would(1, 3) = 10 | would(2, 3) = 10 | told(1) = 3
            """);
    }

    /** The least CAPACITY 1 .. 60 by which HAD would grow by h or more; h 0 .. 20. */
    private static void needAtItsEnds() {
        Script.play("16 h 0: the least CAPACITY of all", "trace(\"ga1\") = 0 | need(0, 0) = 1");
        Script.play("16 h 0 also if nothing has room", """
            put(0, 1, 1, 9, 1) = 0 | pin(0, 1, true) = 0 | trace("ga2") = 0 | need(0, 0) = 1
            """);
        Script.play("16 h 20", TWENTY_GETS + "need(0, 20) = 1");
        Script.play("16 h 20, by one less", "put(0, 1, 1, 1, 1) = 0 | trace(\"" + "ga1;".repeat(18) + """
            ga1") = 0 | need(0, 19) = 1 | need(0, 20) = -5
            """);
        Script.play("16 -5: none", "trace(\"ga1\") = 0 | need(0, 1) = -5 | need(0, 20) = -5");
        Script.play("16 as many as h", "trace(\"pa1=1;ga1\") = 0 | need(0, 1) = 1 | need(0, 2) = -5");
        Script.play("16 more than h", """
            trace("pa1=5;ga1;ga1") = 0 | need(0, 1) = 5 | need(0, 2) = 5 | need(0, 3) = -5
            """);
        for (int weight = 1; weight <= 9; weight++) {
            Script.play("16 as much as the WEIGHT, for by less it is left out", "trace(\"pa1=" + weight
                + ";ga1\") = 0 | need(0, 1) = " + weight);
        }
        String six = "pa1=9;pa2=9;pa3=9;pa4=9;pa5=9;pa6=9";
        String gets = ";ga1;ga2;ga3;ga4;ga5;ga6;ga7";
        Script.play("16 CAPACITY 59", "trace(\"" + six + ";pa7=5" + gets + "\") = 0 | need(0, 7) = 59");
        Script.play("16 CAPACITY 60 at most", "trace(\"" + six + ";pa7=6" + gets + "\") = 0 | need(0, 7) = 60");
        Script.play("16 -5: by 61 only", "trace(\"" + six + ";pa7=7" + gets + "\") = 0 | need(0, 7) = -5");
        Script.play("16 -5: by 61 only, though CAPACITY is 99 now", "set(0, 99) = 20 | trace(\"" + six + ";pa7=7"
            + gets + "\") = 0 | would(0, 0) = 7 | need(0, 7) = -5");
        Script.play("16 it may be above what CAPACITY is now", """
            set(0, 3) = 20 | trace("pa1=9;ga1") = 0 | need(0, 1) = 9 | would(0, 0) = 0
            """);
        Script.play("16 the least, though by more there are fewer", """
            set(2, 9) = 2 | set(3, 0) = 1 | trace("pa1=1;ga1;pa2=4;ga1;xa2;xa1") = 0 | need(0, 1) = 1 | need(0, 2) = 1
            """);
        Script.play("16 it only asks", """
            trace("pa1=9;ga1") = 0 | need(0, 1) = 9 | told(0) = 20 | told(1) = 10 | told(8) = 0 | told(12) = 0
            count(0) = 0
            """);
    }

    /** BORDER less, if it is above; TRIM first. */
    private static void needByBorders() {
        Script.play("16 TRIM first", DUE + "trace(\"ga0\") = 0 | need(0, 1) = 9");
        Script.play("16 TRIM first: a PINNED one stays by any CAPACITY", DUE + """
            pin(0, 0, true) = 0 | trace("ga0") = 0 | need(0, 1) = 1
            """);
        String three = """
            set(2, 1) = 2 | set(3, 0) = 1 | put(0, 0, 1, 3, 1) = 0 | get(0, 0) = 1 | put(0, 1, 1, 3, 1) = 0
            get(0, 1) = 1
            pin(0, 1, true) = 0 | set(3, 1) = 0 | put(0, 2, 1, 2, 1) = 0
            """;
        // By 5 the border is 5, so 0, 0 comes to probation and goes, while 0, 2 spends its chance; by 6 and 7 it goes.
        Script.play("16 BORDER less, if it is above CAPACITY", three + "trace(\"ga2\") = 0 | need(0, 1) = 5");
        Script.play("16 BORDER as it is, if it is not above CAPACITY", three + """
            set(1, 6) = 10 | trace("ga2") = 0 | need(0, 1) = 5 | told(1) = 6
            """);
        String kept = "set(2, 1) = 2 | set(3, 0) = 1 | trace(\"pa1=3;ga1;pa2=3;pa3=3;ga1\") = 0\n";
        Script.play("16 BORDER 0 is no more by more CAPACITY", kept + "set(1, 0) = 10 | need(0, 2) = 9");
        Script.play("16 BORDER 2 is less than the WEIGHT", kept + "set(1, 2) = 10 | need(0, 2) = 9");
        Script.play("16 BORDER 3 is enough", kept + "set(1, 3) = 10 | need(0, 2) = 3");
        Script.play("16 BORDER is as it is by each CAPACITY", kept + """
            set(1, 20) = 10 | need(0, 2) = 3 | need(0, 1) = 3 | told(1) = 20
            """);
    }

    /** A fraction in lowest terms; part 0 above, 1 below the line; h 0 .. 20. */
    private static void oddsAtTheirEnds() {
        Script.play("17 h 0: 1 of 1", "trace(\"ga1\") = 0 | odds(0, 0, 0) = 1 | odds(0, 0, 1) = 1");
        Script.play("17 none: 0 of 1", "trace(\"ga1\") = 0 | odds(0, 1, 0) = 0 | odds(0, 1, 1) = 1");
        Script.play("17 h 20: all", TWENTY_GETS + "odds(0, 20, 0) = 1 | odds(0, 20, 1) = 1");
        Script.play("17 h 20: none, by one less", "put(0, 1, 1, 1, 1) = 0 | trace(\"" + "ga1;".repeat(18)
            + "ga1\") = 0\n"
            + "odds(0, 19, 0) = 1 | odds(0, 19, 1) = 1 | odds(0, 20, 0) = 0 | odds(0, 20, 1) = 1");
        Script.play("17 as many as h", """
            trace("pa1=1;ga1") = 0 | odds(0, 1, 0) = 1 | odds(0, 1, 1) = 1 | odds(0, 2, 0) = 0
            """);
        Script.play("17 more than h", """
            trace("pa1=1;ga1;ga1;ga1") = 0 | odds(0, 1, 0) = 1 | odds(0, 3, 0) = 1 | odds(0, 4, 0) = 0
            """);
        Script.play("17 TRIM first", DUE + "trace(\"ga0\") = 0 | odds(0, 1, 0) = 0 | odds(0, 1, 1) = 1");
        Script.play("17 a WEIGHT above CAPACITY is left out", """
            set(0, 4) = 20 | trace("pa1=5;ga1") = 0 | odds(0, 1, 0) = 0
            """);
        Script.play("17 it only asks", """
            trace("pa1=9;ga1") = 0 | odds(0, 1, 0) = 1 | told(0) = 20 | told(1) = 10 | told(8) = 0 | count(0) = 0
            """);
    }

    /** BORDER being any of 0 .. CAPACITY, each alike likely. */
    private static void oddsByBorders() {
        String risen = "set(2, 1) = 2 | set(3, 0) = 1 | set(0, %1$d) = 20 | set(1, %1$d) = %2$d | "
            + "put(0, 0, 1, %1$d, 1) = 0 | get(0, 0) = 1 | trace(\"pb1=1;ga0\") = 0\n";
        for (int capacity = 1; capacity <= 9; capacity++) {
            Script.play("17 only by BORDER as much as CAPACITY", String.format(risen, capacity, Math.min(capacity, 10))
                + "odds(0, 1, 0) = 1 | odds(0, 1, 1) = " + (capacity + 1));
        }
        String zero = """
            set(2, 1) = 2 | set(3, 0) = 1 | set(0, 9) = 20 | put(0, 0, 1, 1, 1) = 0 | get(0, 0) = 1 | set(3, 1) = 0
            put(0, 1, 1, 8, 1) = 0 | set(3, 0) = 1 | trace("pc0=1;gc0") = 0
            """;
        // By 0 the protected one is on probation behind 0, 1, which has a chance, and goes ahead of c0.
        Script.play("17 only by BORDER 0", zero + "odds(0, 1, 0) = 1 | odds(0, 1, 1) = 10");
        Script.play("17 whatever BORDER is now: 9", zero + "set(1, 9) = 9 | odds(0, 1, 0) = 1 | odds(0, 1, 1) = 10");
        String kept = "set(2, 1) = 2 | set(3, 0) = 1 | set(0, 11) = 20 | put(0, 0, 1, %d, 1) = 0 | "
            + "set(1, 11) = 10 | get(0, 0) = 1 | trace(\"pa2=9;ga0\") = 0\n";
        for (int weight = 3; weight <= 9; weight++) {
            int enough = 12 - weight;
            int divisor = java.math.BigInteger.valueOf(enough).gcd(java.math.BigInteger.valueOf(12)).intValue();
            Script.play("17 lowest terms of " + enough + " of 12", String.format(kept, weight)
                + "odds(0, 1, 0) = " + enough / divisor + " | odds(0, 1, 1) = " + 12 / divisor);
        }
        Script.play("17 CAPACITY 99: by all BORDERS but 0", "set(2, 1) = 2 | set(3, 0) = 1 | set(0, 99) = 20 | "
            + "put(1, 0, 1, 1, 1) = 0 | get(1, 0) = 1\n"
            + "trace(\"" + each("pa%d=9;", 11) + "gb0\") = 0 | odds(0, 1, 0) = 99 | odds(0, 1, 1) = 100");
        Script.play("17 CAPACITY 99: only by BORDER 99", "set(2, 1) = 2 | set(3, 0) = 1 | set(0, 99) = 20 | "
            + "set(1, 99) = 10\n"
            + each("put(0, %1$d, 1, 9, 1) = 0 | get(0, %1$d) = 1\n", 11) + "trace(\"pd0=1;"
            + each("ga%d;", 10) + "ga10\") = 0 | odds(0, 11, 0) = 1 | odds(0, 11, 1) = 100 | odds(0, 10, 0) = 1 | "
            + "odds(0, 10, 1) = 1");
        Script.play("17 an odd number of BORDERS, CAPACITY 2", "set(2, 1) = 2 | set(3, 0) = 1 | set(0, 2) = 20 | "
            + "put(0, 0, 1, 1, 1) = 0 | get(0, 0) = 1 | trace(\"pb1=2;ga0\") = 0\n"
            + "odds(0, 1, 0) = 2 | odds(0, 1, 1) = 3");
    }

    private static String each(String call, int times) {
        StringBuilder lines = new StringBuilder();
        for (int i = 0; i < times; i++) {
            lines.append(String.format(call, i));
        }
        return lines.toString();
    }

    private static String fill(int things) {
        StringBuilder lines = new StringBuilder();
        for (int i = 0; i < things; i++) {
            lines.append("put(1, ").append(i).append(", 1, 1, 1) = 0\n");
        }
        return lines.toString();
    }

    /** COSTS of all in it, together, by how many they are: a fraction in lowest terms (NO: there are none). */
    private static void mean() {
        Script.play("18 NO: none on PROBATION", "mean(1, 0) = NO | mean(1, 1) = NO");
        Script.play("18 NO: none on PROTECTED", "put(0, 0, 1, 1, 5) = 0 | mean(2, 0) = NO | mean(2, 1) = NO");
        Script.play("18 NO: none on PROBATION, one on PROTECTED", """
            set(2, 1) = 2 | put(0, 0, 1, 1, 5) = 0 | get(0, 0) = 1 | mean(1, 0) = NO | mean(1, 1) = NO
            mean(2, 0) = 5 | mean(2, 1) = 1
            """);
        Script.play("18 NO: none any more", """
            put(0, 0, 1, 1, 5) = 0 | drop(0, 0) = 1 | mean(1, 0) = NO | mean(1, 1) = NO
            """);
        Script.play("18 COST 0: 0 of 1", "put(0, 0, 1, 1, 0) = 0 | mean(1, 0) = 0 | mean(1, 1) = 1");
        Script.play("18 COST 0, twice: 0 of 1", """
            put(0, 0, 1, 1, 0) = 0 | put(0, 1, 1, 1, 0) = 0 | mean(1, 0) = 0 | mean(1, 1) = 1
            """);
        Script.play("18 COST 99", """
            put(0, 0, 1, 1, 99) = 0 | put(0, 1, 1, 1, 99) = 0 | mean(1, 0) = 99 | mean(1, 1) = 1
            """);
        Script.play("18 a whole number", """
            put(0, 0, 1, 1, 1) = 0 | put(0, 1, 1, 1, 5) = 0 | mean(1, 0) = 3 | mean(1, 1) = 1
            """);
        Script.play("18 a half", "put(0, 0, 1, 1, 1) = 0 | put(0, 1, 1, 1, 0) = 0 | mean(1, 0) = 1 | mean(1, 1) = 2");
        Script.play("18 10 by 4 is 5 by 2", """
            put(0, 0, 1, 1, 1) = 0 | put(0, 1, 1, 1, 2) = 0 | put(0, 2, 1, 1, 3) = 0 | put(0, 3, 1, 1, 4) = 0
            mean(1, 0) = 5 | mean(1, 1) = 2
            """);
        Script.play("18 2 by 6 is 1 by 3", fill(6).replace("1, 1) = 0", "1, 0) = 0") + """
            put(1, 0, 1, 1, 2) = 2 | mean(1, 0) = 1 | mean(1, 1) = 3
            """);
        Script.play("18 the COST told last", "put(0, 0, 1, 1, 5) = 0 | put(0, 0, 1, 1, 8) = 2 | mean(1, 0) = 8");
        Script.play("18 not by WEIGHT", """
            put(0, 0, 1, 9, 1) = 0 | put(0, 1, 1, 1, 2) = 0 | mean(1, 0) = 3 | mean(1, 1) = 2
            """);
        Script.play("18 of PROTECTED", """
            set(2, 1) = 2 | put(0, 0, 1, 1, 5) = 0 | get(0, 0) = 1 | put(0, 1, 1, 1, 6) = 0 | get(0, 1) = 1
            put(0, 2, 1, 1, 50) = 0
            mean(2, 0) = 11 | mean(2, 1) = 2 | mean(1, 0) = 50 | mean(1, 1) = 1
            """);
        Script.play("18 GHOSTS don't count", """
            set(3, 0) = 1 | set(0, 1) = 20 | put(0, 0, 1, 1, 9) = 0 | put(0, 1, 1, 1, 3) = 0 | mean(1, 0) = 3
            mean(1, 1) = 1
            """);
        Script.play("18 99 by 99 things", "set(0, 99) = 20\n" + fill(99) + "mean(1, 0) = 1 | mean(1, 1) = 1");
        Script.play("18 98 and 99 by 99 things", "set(0, 99) = 20\n" + fill(99) + """
            put(1, 0, 1, 1, 99) = 2 | mean(1, 0) = 197 | mean(1, 1) = 99
            """);
    }
}
