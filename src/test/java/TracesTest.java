/** Promises 12 to 18: feed, trace, run, would, need, odds, mean. */
final class TracesTest {
    private TracesTest() {
    }

    public static void main(String[] args) {
        feed();
        trace();
        faults();
        longTexts();
        run();
        would();
        need();
        needByABorder();
        odds();
        mean();
        Script.end();
    }

    private static void feed() {
        StringBuilder lines = new StringBuilder("feed(-1) = BAD\nfeed(128) = BAD\nfeed(MIN) = BAD\nfeed(MAX) = BAD\n");
        for (int i = 1; i <= 100; i++) {
            lines.append("feed(").append(i == 1 ? 0 : i == 2 ? 127 : 103).append(") = ").append(i).append('\n');
        }
        lines.append("feed(103) = FULL\nfeed(128) = BAD\nfeed(-1) = BAD\ncount(6) = 100\n");
        Script.play("12 feed", lines.toString());
    }

    private static void trace() {
        Script.play("13 trace", """
            trace("ga1") = 0
            count(6) = 0
            count(4) = 1
            trace("pd99=9") = 1
            trace("xc07;gb0;pa00=1") = 2
            trace("ga1;ga1;ga1;ga1;ga1;ga1;ga1;ga1;ga1;ga1;ga1;ga1;ga1;ga1;ga1;ga1;ga1;ga1;ga1;ga1") = 3
            trace("q") = -10
            count(6) = 0
            count(4) = 4
            trace("ga1") = 4
            trace("ga1") = 5
            count(4) = 6
            # Six are kept: the text stays, be there a fault or none.
            trace("ga1") = FULL
            count(6) = 3
            trace() = FULL
            trace("q") = FULL
            count(6) = 4
            """);
        Script.play("13 what the clauses do", """
            trace("pb7=3;pb08=4;pc21=2;xb8;gb07") = 0
            run(0) = 1
            of(1, 7, 0) = 1
            of(1, 7, 1) = 3
            of(1, 8, 0) = 0
            of(2, 21, 1) = 2
            of(2, 21, 2) = 1
            """);
    }

    private static void faults() {
        Script.play("13 the fault", """
            trace("") = -10
            trace("G") = -10
            trace(";") = -10
            trace(" ga1") = -10
            trace("g") = -11
            trace("gA") = -11
            trace("ge") = -11
            trace("g1") = -11
            trace("g`") = -11
            trace("ga") = -12
            trace("ga;") = -12
            trace("gaa") = -12
            trace("ga/") = -12
            trace("ga:") = -12
            trace("ga1 ") = -13
            trace("ga1g") = -13
            trace("ga1=1") = -13
            trace("xa1=1") = -13
            trace("ga1/") = -13
            trace("ga12:") = -14
            trace("ga123") = -14
            trace("ga1;") = -14
            trace("ga1;;") = -14
            trace("ga1;g") = -15
            trace("xd9;xd9x") = -17
            trace("p") = -11
            trace("pa") = -12
            trace("pa1") = -13
            trace("pa1;") = -13
            trace("pa12") = -14
            trace("pa123") = -14
            trace("pa1=") = -14
            trace("pa1=0") = -14
            trace("pa1=;") = -14
            trace("pa1=:") = -14
            trace("pa1=10") = -15
            trace("pa1=1;") = -16
            trace("pa12=1=") = -16
            count(4) = 0
            trace("pa1=9") = 0
            """);
        Script.play("13 no clause may be the 21st", """
            trace("ga1;ga1;ga1;ga1;ga1;ga1;ga1;ga1;ga1;ga1;ga1;ga1;ga1;ga1;ga1;ga1;ga1;ga1;ga1;ga1;") = -89
            trace("ga1;ga1;ga1;ga1;ga1;ga1;ga1;ga1;ga1;ga1;ga1;ga1;ga1;ga1;ga1;ga1;ga1;ga1;ga1;ga1;ga1") = -89
            trace("ga1;ga1;ga1;ga1;ga1;ga1;ga1;ga1;ga1;ga1;ga1;ga1;ga1;ga1;ga1;ga1;ga1;ga1;ga1;ga1q") = -89
            trace("ga1;ga1;ga1;ga1;ga1;ga1;ga1;ga1;ga1;ga1;ga1;ga1;ga1;ga1;ga1;ga1;ga1;ga1;ga1;p") = -87
            """);
        Script.play("13 a faulty text leaves no clause behind", """
            trace("ga1;ga2;ga3;q") = -22
            trace("gb1") = 0
            run(0) = 0
            told(9) = 1
            """);
    }

    private static void longTexts() {
        String fourteen = "pa12=1;".repeat(14);
        Script.play("13 a text of 100 signs that ends too early", "trace(\"" + fourteen + "ga\") = -110\ncount(6) = 0");
        Script.play("13 a fault at the last sign", "trace(\"" + fourteen + "gg\") = -109\ncount(4) = 0");
        String hundred = "pa12=1;".repeat(13) + "ga1;pa1=1";
        Script.play("13 a trace of 100 signs", "trace(\"" + hundred + "\") = 0\n" + """
            run(0) = 0
            count(0) = 1
            count(1) = 1
            """);
    }

    private static void run() {
        Script.play("14 run", """
            trace("pa1=2;ga1;ga2;pa1=3") = 0
            run(0) = 1
            told(8) = 1
            told(9) = 1
            told(11) = 1
            told(12) = 1
            of(0, 1, 0) = 2
            of(0, 1, 1) = 3
            of(0, 1, 2) = 1
            get(0, 1) = 0
            run(1) = NONE
            run(-1) = NONE
            run(MAX) = NONE
            """);
        Script.play("14 a put has value 0 and cost 1, also of what is there", """
            put(0, 1, 55, 2, 9) = 0
            trace("pa1=4") = 0
            run(0) = 0
            of(0, 1, 1) = 4
            of(0, 1, 2) = 1
            of(0, 1, 3) = 1
            get(0, 1) = 0
            told(12) = 9
            """);
        Script.play("14 a weight above the capacity is left out", """
            set(0, 4) = 20
            put(0, 2, 1, 1, 1) = 0
            trace("pa1=5;pa2=5;pa3=3") = 0
            run(0) = 0
            of(0, 1, 0) = 0
            of(0, 2, 1) = 1
            of(0, 2, 3) = 0
            of(0, 3, 0) = 1
            told(12) = 2
            """);
        Script.play("14 x drops things and ghosts", """
            set(3, 0) = 1
            set(0, 2) = 20
            put(0, 1, 1, 2, 1) = 0
            put(0, 2, 1, 2, 1) = 0
            trace("xa1;xa2;xa3;ga1") = 0
            run(0) = 0
            of(0, 1, 0) = 0
            of(0, 2, 0) = 0
            told(9) = 1
            told(10) = 0
            told(13) = 1
            """);
        Script.play("14 clause by clause, by ghosts too", """
            set(3, 0) = 1
            set(0, 4) = 20
            trace("pa1=4;pa2=4;ga1;pa1=1;ga1") = 0
            run(0) = 1
            told(9) = 1
            told(10) = 1
            told(1) = 3
            of(0, 1, 0) = 2
            of(0, 2, 0) = 3
            told(13) = 2
            gone(0) = 2
            gone(1) = 1
            """);
    }

    private static void would() {
        Script.play("15 would", """
            set(3, 0) = 1
            set(0, 4) = 20
            get(3, 3) = NO
            put(0, 9, 1, 4, 1) = 0
            put(0, 8, 1, 4, 1) = 0
            get(0, 8) = 1
            get(0, 9) = NO
            trace("pa1=4;pa2=4;ga1;pa1=1;ga1;ga5") = 0
            would(0, 0) = 1
            would(0, 1) = 2
            would(0, 2) = 1
            would(0, 3) = 3
            would(0, 4) = 1
            would(0, 5) = 3
            # Asked, nothing is otherwise.
            told(1) = 4
            told(4) = 4
            told(8) = 1
            told(9) = 2
            told(10) = 1
            told(12) = 2
            told(13) = 1
            of(0, 1, 0) = 0
            of(0, 8, 0) = 1
            gone(0) = 9
            run(0) = 1
            told(1) = 3
            told(8) = 2
            told(9) = 4
            told(10) = 2
            told(13) = 4
            would(0, 6) = NONE
            would(0, -1) = NONE
            would(1, 0) = NONE
            would(-1, 0) = NONE
            would(MAX, 0) = NONE
            would(0, MIN) = NONE
            """);
        Script.play("15 both queues are weighed, and not trimmed ahead", """
            set(2, 1) = 2
            put(0, 0, 1, 9, 1) = 0
            pin(0, 0, true) = 0
            put(0, 1, 1, 2, 1) = 0
            get(0, 1) = 1
            set(0, 5) = 20
            pin(0, 0, false) = 1
            trace("gb1") = 0
            would(0, 4) = 9
            would(0, 5) = 0
            trace("gb1;pb1=3") = 1
            would(1, 4) = 3
            would(1, 5) = 1
            """);
    }

    private static void need() {
        Script.play("16 need", """
            trace("pa1=9;pa2=9;pa3=9;pa4=9;pa5=9;pa6=9;ga1;ga2;ga3;ga4;ga5;ga6") = 0
            need(0, 0) = 1
            need(0, 1) = 9
            need(0, 2) = 18
            need(0, 5) = 45
            need(0, 6) = 54
            need(0, 7) = -5
            need(0, 20) = -5
            need(0, 21) = BAD
            need(0, -1) = BAD
            need(0, MAX) = BAD
            need(1, 0) = NONE
            need(1, 21) = NONE
            need(-1, 0) = NONE
            # Asked, nothing is otherwise.
            told(0) = 20
            told(1) = 10
            told(9) = 0
            told(13) = 0
            count(0) = 0
            """);
        Script.play("16 60 at most", """
            set(0, 99) = 20
            trace("pa1=9;pa2=9;pa3=9;pa4=9;pa5=9;pa6=9;pa7=6;ga1;ga2;ga3;ga4;ga5;ga6;ga7") = 0
            need(0, 7) = 60
            trace("pa1=9;pa2=9;pa3=9;pa4=9;pa5=9;pa6=9;pa7=7;ga1;ga2;ga3;ga4;ga5;ga6;ga7") = 1
            would(1, 0) = 7
            need(1, 7) = -5
            """);
        Script.play("16 trimmed first, the border less if it is above", """
            set(2, 1) = 2
            set(3, 0) = 1
            put(0, 0, 1, 5, 1) = 0
            get(0, 0) = 1
            put(0, 1, 1, 5, 1) = 0
            trace("ga0;ga0") = 0
            need(0, 1) = 5
            trace("ga1") = 1
            # By 5 .. 9 the border is as much, so the protected one stays and the other went.
            need(1, 1) = 10
            set(1, 4) = 10
            # Now 0 is on probation behind 1.
            need(0, 1) = 5
            need(1, 1) = 10
            pin(0, 1, true) = 0
            need(1, 1) = 1
            """);
    }

    private static void needByABorder() {
        Script.play("16 the border is no more than it is", """
            set(2, 1) = 2
            set(3, 0) = 1
            set(1, 0) = 10
            trace("pa1=3;ga1;pa2=3;pa3=3;ga1") = 0
            need(0, 2) = 9
            set(1, 20) = 0
            need(0, 2) = 3
            """);
    }

    private static void odds() {
        Script.play("17 odds", """
            trace("pa1=1") = 0
            odds(0, 0, 0) = 1
            odds(0, 0, 1) = 1
            odds(0, 1, 0) = 0
            odds(0, 1, 1) = 1
            odds(0, 20, 0) = 0
            odds(0, 21, 0) = NO
            odds(0, -1, 0) = NO
            odds(0, 0, 2) = NO
            odds(0, 0, -1) = NO
            odds(1, 0, 0) = NO
            odds(-1, 0, 0) = NO
            odds(MAX, MIN, MAX) = NO
            """);
        Script.play("17 by which borders", """
            set(2, 1) = 2
            set(3, 0) = 1
            set(0, 11) = 20
            set(1, 11) = 10
            put(0, 0, 1, 4, 1) = 0
            get(0, 0) = 1
            put(0, 1, 1, 4, 1) = 0
            # One has to go, and that is 1, as 0 is protected, or on probation behind it.
            trace("pa2=4;ga0") = 0
            odds(0, 1, 0) = 1
            odds(0, 1, 1) = 1
            # By borders 4 .. 11, 8 of 12, it stays protected; else both go.
            trace("pa2=8;ga0") = 1
            odds(1, 1, 0) = 2
            odds(1, 1, 1) = 3
            odds(1, 2, 0) = 0
            odds(1, 2, 1) = 1
            # Asked, nothing is otherwise.
            told(1) = 11
            of(0, 0, 0) = 2
            of(0, 1, 0) = 1
            told(8) = 1
            """);
    }

    private static void mean() {
        Script.play("18 mean", """
            mean(1, 0) = NO
            mean(2, 1) = NO
            put(0, 0, 1, 1, 5) = 0
            mean(1, 0) = 5
            mean(1, 1) = 1
            put(0, 1, 1, 1, 6) = 0
            mean(1, 0) = 11
            mean(1, 1) = 2
            put(0, 2, 1, 1, 7) = 0
            mean(1, 0) = 6
            mean(1, 1) = 1
            put(0, 3, 1, 1, 8) = 0
            mean(1, 0) = 13
            mean(1, 1) = 2
            mean(2, 0) = NO
            set(2, 1) = 2
            get(0, 3) = 1
            get(0, 1) = 1
            mean(2, 0) = 7
            mean(2, 1) = 1
            mean(1, 0) = 6
            mean(1, 1) = 1
            mean(0, 0) = NO
            mean(3, 0) = NO
            mean(-1, 0) = NO
            mean(1, 2) = NO
            mean(1, -1) = NO
            mean(MAX, MIN) = NO
            """);
        Script.play("18 mean of no costs", """
            put(0, 0, 1, 1, 0) = 0
            put(0, 1, 1, 1, 0) = 0
            mean(1, 0) = 0
            mean(1, 1) = 1
            """);
        Script.play("18 ghosts have no mean", """
            set(3, 0) = 1
            set(0, 1) = 20
            put(0, 0, 1, 1, 9) = 0
            put(0, 1, 1, 1, 3) = 0
            mean(3, 0) = NO
            mean(4, 0) = NO
            mean(1, 0) = 3
            """);
    }
}
