/** Bounds of promises 12 to 14, each in a run of its own: the text, the fault, what a trace does. */
final class TraceBoundsTest {
    /** The key 0, 0 weighs 9 by CAPACITY 5, and would go by a trim. */
    private static final String DUE = """
        set(3, 0) = 1 | put(0, 0, 77, 9, 4) = 0 | pin(0, 0, true) = 0 | set(0, 5) = 20 | pin(0, 0, false) = 1
        """;

    private TraceBoundsTest() {
    }

    public static void main(String[] args) {
        feed();
        eachSign();
        keys();
        ends();
        clauses();
        lengths();
        sixTraces();
        traces();
        gets();
        puts();
        drops();
        Script.end();
    }

    /** A sign (0 .. 127); 100 at most. */
    private static void feed() {
        for (String sign : new String[] {"0", "1", "126", "127", "103"}) {
            Script.play("12 a sign inside", "feed(" + sign + ") = 1 | feed(" + sign + ") = 2 | count(6) = 2");
        }
        for (String sign : new String[] {"-1", "128", "MIN", "MAX", "255", "256", "-128", "359"}) {
            Script.play("12 BAD: a sign outside", "feed(" + sign + ") = BAD | count(6) = 0 | feed(1) = 1 | feed("
                + sign + ") = BAD | count(6) = 1");
        }
        StringBuilder lines = new StringBuilder();
        for (int i = 1; i <= 99; i++) {
            lines.append("feed(103) = ").append(i).append('\n');
        }
        Script.play("12 the 100th sign", lines + "feed(103) = 100 | count(6) = 100");
        Script.play("12 FULL: the 101st sign", lines + """
            feed(103) = 100 | feed(103) = FULL | feed(0) = FULL | feed(127) = FULL | count(6) = 100
            """);
        Script.play("12 BAD ahead of FULL", lines + """
            feed(103) = 100 | feed(128) = BAD | feed(-1) = BAD | feed(MAX) = BAD
            """);
        Script.play("12 behind a FULL text that is read there is room again", lines + """
            feed(103) = 100 | feed(103) = FULL | trace() = -11 | feed(103) = 1
            """);
        Script.play("12 behind THE TEXT's", "feed(103) = 1 | feed(97) = 2 | feed(55) = 3 | trace() = 0");
    }

    /** Behind each start, each sign: if one may come there, or the fault is its place. */
    private static void eachSign() {
        behind("", "gpx");
        for (String start : new String[] {"", "ga1;", "xd99;pa0=9;"}) {
            behind(start + "g", "abcd");
            behind(start + "p", "abcd");
            behind(start + "x", "abcd");
            behind(start + "ga", "0123456789");
            behind(start + "xd", "0123456789");
            behind(start + "pb", "0123456789");
            behind(start + "ga0", "0123456789;");
            behind(start + "xd9", "0123456789;");
            behind(start + "pc5", "0123456789=");
            behind(start + "ga00", ";");
            behind(start + "xd99", ";");
            behind(start + "pb42", "=");
            behind(start + "pb4=", "123456789");
            behind(start + "pb42=", "123456789");
            behind(start + "pb42=1", ";");
            behind(start + "pb4=9", ";");
            behind(start + "ga1;", "gpx");
        }
    }

    private static void behind(String start, String fitting) {
        for (int sign = 0; sign <= 127; sign++) {
            SegmentedCache cache = new SegmentedCache();
            String text = start + (char) sign;
            Script.feed(cache, text);
            boolean fits = fitting.indexOf(sign) >= 0;
            int due = !fits ? -10 - start.length() : isWhole(text) ? 0 : -10 - text.length();
            Script.check("13 behind " + start + " sign " + sign, cache.trace(), due);
            Script.check("13 then THE TEXT is empty", cache.count(6), 0);
            Script.check("13 then there are traces", cache.count(4), due == 0 ? 1 : 0);
        }
    }

    private static boolean isWhole(String text) {
        String clause = "([gx][a-d][0-9]{1,2}|p[a-d][0-9]{1,2}=[1-9])";
        return text.matches(clause + "(;" + clause + ")*");
    }

    /** KEY: a letter a .. d (SPACE 0 .. 3), a number (1 or 2 digits). */
    private static void keys() {
        Script.play("13 a0", "trace(\"pa0=1\") = 0 | run(0) = 0 | key(1, 0) = 0");
        Script.play("13 a00", "trace(\"pa00=1\") = 0 | run(0) = 0 | key(1, 0) = 0");
        Script.play("13 a07 is a7", "trace(\"pa07=1;ga7\") = 0 | run(0) = 1 | key(1, 0) = 7");
        Script.play("13 a70 is not a7", "trace(\"pa70=1;ga7\") = 0 | run(0) = 0 | key(1, 0) = 70");
        Script.play("13 d99", "trace(\"pd99=1\") = 0 | run(0) = 0 | key(1, 0) = 399");
        Script.play("13 b9, c10", "trace(\"pb9=1;pc10=1\") = 0 | run(0) = 0 | key(1, 0) = 109 | key(1, 1) = 210");
        Script.play("13 three digits", "trace(\"ga100\") = -14");
        Script.play("13 three digits, 0 ahead", "trace(\"ga007\") = -14");
        Script.play("13 no digit", "trace(\"ga\") = -12 | trace(\"ga;\") = -12 | trace(\"pa=1\") = -12");
        Script.play("13 below 0", "trace(\"ga-1\") = -12");
        Script.play("13 letters behind d", "trace(\"ge1\") = -11 | trace(\"gz1\") = -11");
        Script.play("13 great letters", "trace(\"GA1\") = -10 | trace(\"gA1\") = -11");
        Script.play("13 WEIGHT 0", "trace(\"pa1=0\") = -14");
        Script.play("13 WEIGHT 1 and 9", "trace(\"pa1=1;pa2=9\") = 0 | run(0) = 0 | of(0, 1, 1) = 1 | of(0, 2, 1) = 9");
        Script.play("13 WEIGHT 10", "trace(\"pa1=10\") = -15");
        Script.play("13 WEIGHT 01", "trace(\"pa1=01\") = -14");
        Script.play("13 g and x have no WEIGHT", "trace(\"ga1=1\") = -13 | trace(\"xa1=1\") = -13");
        Script.play("13 p without WEIGHT", "trace(\"pa1\") = -13 | trace(\"pa1;ga1\") = -13");
        Script.play("13 no blanks", """
            trace(" ga1") = -10 | trace("g a1") = -11 | trace("ga 1") = -12 | trace("ga1 ") = -13 | trace("ga1 2") = -13
            trace("pa1 =1") = -13 | trace("pa1= 1") = -14 | trace("pa1=1 ") = -15 | trace("ga1; ga2") = -14
            trace(" ") = -10
            """);
    }

    /** The end of THE TEXT, if it ends too early. */
    private static void ends() {
        Script.play("13 no sign at all", "trace() = -10 | count(4) = 0");
        Script.play("13 g, p, x", "trace(\"g\") = -11 | trace(\"p\") = -11 | trace(\"x\") = -11");
        Script.play("13 ga, pa, xa", "trace(\"ga\") = -12 | trace(\"pa\") = -12 | trace(\"xa\") = -12");
        Script.play("13 pa1, pa11", "trace(\"pa1\") = -13 | trace(\"pa11\") = -14");
        Script.play("13 pa1=, pa11=", "trace(\"pa1=\") = -14 | trace(\"pa11=\") = -15");
        Script.play("13 ; at the end", "trace(\"ga1;\") = -14 | trace(\"pa1=1;\") = -16 | trace(\"ga1;xa11;\") = -19");
        Script.play("13 ; ahead", "trace(\";ga1\") = -10");
        Script.play("13 ; twice", "trace(\"ga1;;ga2\") = -14");
        Script.play("13 no ; between", """
            trace("ga1ga2") = -13 | trace("ga11ga2") = -14 | trace("pa1=1ga2") = -15
            """);
        Script.play("13 another sign between", "trace(\"ga1,ga2\") = -13 | trace(\"ga1:ga2\") = -13");
        Script.play("13 of two faults the first", "trace(\"ga1;q;q\") = -14");
        Script.play("13 THE TEXT is empty by a FAULT, too", """
            trace("ga1q") = -13 | count(6) = 0 | feed(103) = 1 | feed(97) = 2 | feed(49) = 3 | trace() = 0
            """);
        Script.play("13 THE TEXT is empty behind a TRACE", "trace(\"ga1\") = 0 | count(6) = 0 | trace() = -10");
    }

    /** CLAUSES, 1 to 20. */
    private static void clauses() {
        Script.play("13 one clause", "trace(\"ga1\") = 0 | run(0) = 0 | told(9) = 1");
        String nineteen = "ga1;".repeat(18) + "ga1";
        Script.play("13 19 clauses", "trace(\"" + nineteen + "\") = 0 | run(0) = 0 | told(9) = 19");
        Script.play("13 20 clauses", "trace(\"" + nineteen + ";ga1\") = 0 | run(0) = 0 | told(9) = 20");
        Script.play("13 20 clauses, each another", "trace(\"" + "pa1=1;ga1;xa1;gb1;".repeat(5).replaceAll(";$", "")
            + "\") = 0 | run(0) = 5 | told(9) = 5");
        Script.play("13 21 clauses: the ; is the fault", "trace(\"" + nineteen + """
            ;ga1;ga1") = -89 | count(4) = 0 | count(6) = 0
            """);
        Script.play("13 20 clauses and ;", "trace(\"" + nineteen + ";ga1;\") = -89");
        Script.play("13 20 clauses and another sign", "trace(\"" + nineteen + ";ga1g\") = -89");
        Script.play("13 20 clauses, the last one ends too early", "trace(\"" + nineteen + ";pa1=\") = -90");
        Script.play("13 20 clauses, the last one is at fault", "trace(\"" + nineteen + ";gq1\") = -87");
        Script.play("13 a second digit ends no clause", "trace(\"" + nineteen + """
            ;ga12") = 0 | run(0) = 0 | told(9) = 20
            """);
    }

    /** THE TEXT (bytes, 100 at most). */
    private static void lengths() {
        String fourteen = "pa12=1;".repeat(14);
        String thirteen = "pa12=1;".repeat(13);
        Script.play("13 99 signs", "trace(\"" + thirteen + "ga1;ga12\") = 0 | run(0) = 1 | told(9) = 1");
        Script.play("13 100 signs", "trace(\"" + thirteen + "ga12;ga12\") = 0 | run(0) = 2 | told(9) = 0");
        Script.play("13 100 signs, the last one counts", "trace(\"" + thirteen + "pa12=1;x2\") = -109");
        Script.play("13 99 signs end too early", "trace(\"" + fourteen + "g\") = -109 | count(6) = 0");
        Script.play("13 100 signs end too early", "trace(\"" + fourteen + "ga\") = -110 | count(6) = 0");
        Script.play("13 100 signs, the last one is the fault", "trace(\"" + fourteen + "gg\") = -109");
        Script.play("13 the first of 100 signs is the fault", "trace(\"" + "q".repeat(100) + """
            ") = -10 | count(6) = 0
            """);
        Script.play("13 what is behind 100 signs is none of THE TEXT", "trace(\"" + thirteen + """
            ga12;ga12;ga12") = 0 | run(0) = 2
            """);
    }

    /** 6 TRACES are kept at most. FULL: there are 6 (THE TEXT stays). */
    private static void sixTraces() {
        String six = "trace(\"ga0\") = 0 | trace(\"ga1\") = 1 | trace(\"ga2\") = 2 | trace(\"ga3\") = 3 | "
            + "trace(\"ga4\") = 4\n";
        Script.play("13 its number: the sixth is 5", six + "trace(\"ga5\") = 5 | count(4) = 6 | count(6) = 0");
        Script.play("13 FULL: the seventh; THE TEXT stays", six + """
            trace("ga5") = 5 | trace("ga6") = FULL | count(6) = 3 | count(4) = 6 | trace() = FULL | count(6) = 3
            """);
        Script.play("13 FULL though there is a FAULT; THE TEXT stays", six + """
            trace("ga5") = 5 | trace("q") = FULL | count(6) = 1
            """);
        Script.play("13 FULL though THE TEXT is empty", six + "trace(\"ga5\") = 5 | trace() = FULL | count(6) = 0");
        Script.play("13 a sign comes behind THE TEXT that stayed", six + """
            trace("ga5") = 5 | trace("ga6") = FULL | feed(55) = 4
            """);
        Script.play("13 by 5 a FAULT is told, and takes no place", six + """
            trace("q") = -10 | count(4) = 5 | trace("ga5") = 5
            """);
        Script.play("13 FULL leaves the 6 as they are", six + """
            trace("ga5") = 5 | trace("pb7=2;pb8=2") = FULL | run(5) = 0 | run(0) = 0 | told(9) = 2 | of(1, 7, 0) = 0
            """);
    }

    private static void traces() {
        for (String trace : new String[] {"-1", "1", "5", "6", "MIN", "MAX"}) {
            Script.play("14 NONE", "trace(\"pa1=1\") = 0 | run(" + trace + """
                ) = NONE | of(0, 1, 0) = 0 | run(0) = 0 | of(0, 1, 0) = 1
                """);
        }
        Script.play("14 NONE: there are none", "run(0) = NONE | run(-1) = NONE");
        Script.play("14 NONE: behind a FAULT", "trace(\"ga1;\") = -14 | run(0) = NONE");
        Script.play("14 the last of 6", """
            trace("ga0") = 0 | trace("ga1") = 1 | trace("ga2") = 2 | trace("ga3") = 3 | trace("ga4") = 4
            trace("pd5=5") = 5
            run(5) = 0 | key(1, 0) = 305 | run(6) = NONE
            """);
        Script.play("14 RUN twice", "trace(\"pa1=1;ga1\") = 0 | run(0) = 1 | run(0) = 1 | told(8) = 2 | told(12) = 1");
        Script.play("14 by how many HAD grew, not how many there are", """
            put(0, 1, 1, 1, 1) = 0 | get(0, 1) = 1 | get(0, 1) = 1 | trace("ga1") = 0 | run(0) = 1 | told(8) = 3
            """);
        Script.play("14 by 20", "put(0, 1, 1, 1, 1) = 0 | trace(\"" + "ga1;".repeat(19) + """
            ga1") = 0 | run(0) = 20 | told(8) = 20
            """);
        Script.play("14 clause by clause", """
            trace("ga1;pa1=1;ga1;xa1;ga1") = 0 | run(0) = 1 | told(9) = 2 | of(0, 1, 0) = 0
            """);
    }

    private static void gets() {
        Script.play("14 g: GOT, HIT", """
            put(0, 1, 1, 1, 9) = 0 | trace("ga1;ga1") = 0 | run(0) = 2 | of(0, 1, 0) = 2 | of(0, 1, 3) = 2
            told(11) = 18
            """);
        Script.play("14 g: MISSED", "trace(\"ga1;gd99\") = 0 | run(0) = 0 | told(9) = 2 | told(10) = 0 | told(8) = 0");
        Script.play("14 g: HAUNTED", """
            set(3, 0) = 1 | set(0, 2) = 20 | put(0, 1, 1, 2, 1) = 0 | put(0, 2, 1, 2, 1) = 0 | trace("ga1;ga1") = 0
            run(0) = 0 | told(9) = 2 | told(10) = 2
            """);
        Script.play("14 g: then TRIM", DUE + "trace(\"ga0\") = 0 | run(0) = 1 | told(13) = 1");
        Script.play("14 g that misses: no TRIM", DUE + "trace(\"gb0\") = 0 | run(0) = 0 | told(13) = 0 | told(4) = 9");
    }

    /** PUT with VALUE 0, that WEIGHT, COST 1 (if the WEIGHT is above CAPACITY, it is left out). */
    private static void puts() {
        Script.play("14 p: VALUE 0, WEIGHT, COST 1", """
            trace("pc21=7") = 0 | run(0) = 0 | get(2, 21) = 0 | of(2, 21, 1) = 7 | of(2, 21, 2) = 1 | told(12) = 1
            """);
        Script.play("14 p of what is there: VALUE 0, COST 1, a HIT", """
            put(0, 1, 5, 2, 9) = 0 | trace("pa1=3") = 0 | run(0) = 0 | of(0, 1, 1) = 3 | of(0, 1, 2) = 1
            of(0, 1, 3) = 1 | told(12) = 9 | get(0, 1) = 0
            """);
        Script.play("14 p: CHANCES are LIVES", "set(3, 7) = 1 | trace(\"pa1=1\") = 0 | run(0) = 0 | of(0, 1, 4) = 7");
        Script.play("14 p: WEIGHT as much as CAPACITY", """
            set(0, 4) = 20 | trace("pa1=4") = 0 | run(0) = 0 | of(0, 1, 1) = 4 | told(12) = 1
            """);
        Script.play("14 p: WEIGHT 1 above CAPACITY is left out", """
            set(0, 4) = 20 | trace("pa1=5") = 0 | run(0) = 0 | of(0, 1, 0) = 0 | told(12) = 0
            """);
        Script.play("14 p left out: what is there has no HIT", """
            set(0, 4) = 20 | put(0, 1, 7, 2, 3) = 0 | trace("pa1=5") = 0 | run(0) = 0 | of(0, 1, 1) = 2
            of(0, 1, 3) = 0 | get(0, 1) = 7
            """);
        Script.play("14 p left out: a GHOST stays", """
            set(3, 0) = 1 | set(0, 4) = 20 | put(0, 1, 1, 4, 1) = 0 | put(0, 2, 1, 4, 1) = 0 | trace("pa1=5") = 0
            run(0) = 0 | of(0, 1, 0) = 3 | told(1) = 4
            """);
        Script.play("14 p left out: no TRIM", DUE + "trace(\"pa1=6\") = 0 | run(0) = 0 | told(13) = 0 | told(4) = 9");
        Script.play("14 p left out: the next clauses are run", """
            set(0, 4) = 20 | trace("pa1=5;pa2=4;ga2") = 0 | run(0) = 1 | told(8) = 1
            """);
        Script.play("14 p by a GHOST: BORDER", """
            set(3, 0) = 1 | set(0, 4) = 20 | put(0, 1, 1, 4, 1) = 0 | put(0, 2, 1, 4, 1) = 0 | trace("pa1=3") = 0
            run(0) = 0 | told(1) = 1
            """);
        Script.play("14 p: then TRIM", """
            set(3, 0) = 1 | set(0, 9) = 20 | trace("pa1=5;pa2=5") = 0 | run(0) = 0 | of(0, 1, 0) = 3 | told(13) = 1
            """);
    }

    private static void drops() {
        Script.play("14 x of a THING", """
            put(0, 1, 1, 1, 1) = 0 | trace("xa1") = 0 | run(0) = 0 | of(0, 1, 0) = 0 | told(13) = 0
            """);
        Script.play("14 x of a PINNED one", """
            put(0, 1, 1, 1, 1) = 0 | pin(0, 1, true) = 0 | trace("xa1") = 0 | run(0) = 0 | of(0, 1, 0) = 0
            """);
        Script.play("14 x of a GHOST", """
            set(3, 0) = 1 | set(0, 2) = 20 | put(0, 1, 1, 2, 1) = 0 | put(0, 2, 1, 2, 1) = 0 | trace("xa1") = 0
            run(0) = 0 | of(0, 1, 0) = 0 | told(6) = 0
            """);
        Script.play("14 x of nothing", """
            trace("xa1;xd99") = 0 | run(0) = 0 | told(8) = 0 | told(9) = 0 | count(0) = 0
            """);
        Script.play("14 x: no TRIM", DUE + "trace(\"xb0\") = 0 | run(0) = 0 | told(13) = 0 | told(4) = 9");
    }
}
