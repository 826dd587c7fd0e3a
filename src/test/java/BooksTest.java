/** Promises 19 to 24: book, looked, judge, image, undo, count. */
final class BooksTest {
    private BooksTest() {
    }

    public static void main(String[] args) {
        book();
        looked();
        judge();
        image();
        count();
        Script.end();
    }

    private static void book() {
        Script.play("19 book", """
            book(0, 0, 0) = 1
            book(3, 99, 4) = 2
            book(0, 0, 0) = 3
            count(5) = 3
            book(4, 0, 0) = NONE
            book(-2, 0, 0) = NONE
            book(0, 100, 0) = NONE
            book(0, -1, 0) = NONE
            book(0, 100, 5) = NONE
            book(0, 0, 5) = BAD
            book(0, 0, -1) = BAD
            book(MAX, MIN, MAX) = NONE
            count(5) = 3
            book(-1, MAX, MIN) = 0
            count(5) = 0
            book(0, 0, 1) = 1
            book(0, 0, 2) = 2
            book(0, 0, 3) = 3
            book(0, 0, 4) = 4
            book(0, 0, 0) = 5
            book(0, 0, 0) = 6
            book(0, 0, 0) = 7
            book(0, 0, 0) = 8
            book(0, 0, 0) = FULL
            book(0, 0, 5) = BAD
            book(0, 100, 5) = NONE
            count(5) = 8
            book(-1, 0, 0) = 0
            looked() = -5
            book(1, 1, 1) = 1
            """);
    }

    private static void looked() {
        Script.play("20 looked", """
            looked() = -5
            book(0, 0, 0) = 1
            looked() = -5
            book(0, 1, 1) = 2
            looked() = 1
            put(0, 1, 1, 1, 1) = 0
            looked() = -5
            put(0, 0, 1, 1, 1) = 0
            looked() = 0
            book(-1, 0, 0) = 0
            looked() = -5
            """);
        Script.play("20 looked at each place", """
            set(2, 1) = 2
            put(0, 0, 1, 9, 1) = 0
            get(0, 0) = 1
            put(0, 1, 1, 9, 1) = 0
            pin(0, 1, true) = 0
            set(0, 10) = 20
            set(3, 0) = 1
            put(0, 2, 1, 2, 1) = 0
            put(0, 3, 1, 1, 1) = 0
            set(1, 10) = 10
            get(0, 3) = 1
            book(0, 4, 0) = 1
            book(0, 1, 1) = 2
            book(0, 3, 2) = 3
            book(0, 2, 3) = 4
            book(0, 0, 4) = 5
            looked() = -5
            drop(0, 0) = 4
            looked() = 4
            drop(0, 2) = 3
            looked() = 3
            drop(0, 3) = 2
            looked() = 2
            drop(0, 1) = 1
            looked() = 1
            """);
    }

    private static void judge() {
        Script.play("21 judge of an empty probation", """
            judge(0, 0) = -5
            judge(5, MIN) = -5
            judge(5, MAX) = -5
            tape(1, 1, 2) = 1
            judge(1, 5) = -5
            judge(1, -1) = -5
            tape(2, 2, 2) = 1
            judge(2, 0) = CAST
            judge(6, 0) = NONE
            judge(-1, 0) = NONE
            """);
        Script.play("21 judge", """
            put(3, 99, 1, 1, 1) = 0
            put(0, 7, 1, 1, 1) = 0
            put(1, 0, 1, 1, 1) = 0
            judge(0, 0) = 100
            judge(0, -1) = 100
            judge(0, MAX) = 100
            tape(1, 1, 6) = 1
            judge(1, 0) = 0
            item(1, 1, 399) = 1
            item(1, 2, 7) = 1
            judge(1, 1) = 2
            item(1, 3, 100) = 1
            judge(1, 1) = -5
            item(1, 2, 8) = 1
            judge(1, 1) = 1
            judge(1, 0) = 0
            judge(1, 2) = 0
            judge(1, -1) = 100
            judge(1, MIN) = 100
            judge(1, 6) = 100
            judge(1, 7) = 100
            judge(1, MAX) = 100
            item(1, 4, 399) = 1
            item(1, 5, 7) = 1
            # The row ends: two were looked at.
            judge(1, 4) = 102
            item(1, 5, 399) = 1
            judge(1, 5) = 101
            tape(1, 1, 0) = 1
            judge(1, 0) = 100
            tape(2, 0, 3) = 1
            judge(2, 0) = CAST
            judge(2, -1) = CAST
            tape(2, 2, 3) = 1
            judge(2, 0) = CAST
            tape(2, 3, 3) = 1
            judge(2, 0) = CAST
            tape(2, 4, 3) = 1
            judge(2, 0) = CAST
            tape(2, -1, 3) = 1
            judge(2, 0) = 100
            judge(6, 0) = NONE
            judge(-1, 0) = NONE
            judge(MAX, MAX) = NONE
            """);
        Script.play("21 protected ones are not judged", """
            set(2, 1) = 2
            put(0, 1, 1, 1, 1) = 0
            put(0, 2, 1, 1, 1) = 0
            get(0, 1) = 1
            tape(0, 1, 1) = 1
            item(0, 0, 2) = 1
            judge(0, 0) = -5
            judge(1, 0) = 100
            item(0, 0, 3) = 1
            judge(0, 0) = 0
            """);
    }

    private static void image() {
        Script.play("22, 23 image and undo", """
            undo() = STATE
            image() = 0
            undo() = 0
            set(2, 1) = 2
            set(3, 0) = 1
            put(0, 0, 9, 3, 7) = 0
            get(0, 0) = 9
            pin(0, 0, true) = 0
            put(0, 1, 8, 4, 6) = 0
            put(0, 2, 1, 9, 1) = 0
            put(0, 3, 1, 9, 1) = 0
            get(0, 2) = NO
            get(0, 1) = NO
            book(0, 0, 2) = 1
            book(0, 1, 3) = 2
            image() = 2
            # Now all becomes otherwise.
            set(0, 50) = 20
            set(1, 1) = 10
            set(2, 9) = 1
            set(3, 7) = 0
            put(0, 0, 1, 1, 1) = 2
            pin(0, 0, false) = 1
            drop(0, 3) = 1
            drop(0, 1) = 3
            put(1, 1, 1, 9, 1) = 0
            set(0, 1) = 50
            get(0, 0) = 1
            get(2, 2) = NO
            book(-1, 0, 0) = 0
            book(3, 3, 3) = 1
            undo() = 2
            told(0) = 20
            told(1) = 10
            told(2) = 1
            told(3) = 0
            told(4) = 9
            told(5) = 3
            told(6) = 13
            told(7) = 0
            told(8) = 1
            told(9) = 2
            told(10) = 2
            told(11) = 7
            told(12) = 15
            told(13) = 2
            of(0, 0, 0) = 2
            of(0, 0, 1) = 3
            of(0, 0, 2) = 7
            of(0, 0, 3) = 1
            of(0, 0, 5) = 1
            of(0, 3, 0) = 1
            of(0, 1, 0) = 3
            of(0, 1, 6) = 0
            of(0, 2, 0) = 3
            of(0, 2, 6) = 1
            of(1, 1, 0) = 0
            gone(0) = 2
            gone(1) = 1
            gone(2) = -5
            count(5) = 2
            looked() = -5
            # The image is there yet, and is not touched by what comes.
            drop(0, 0) = 2
            undo() = 2
            get(0, 0) = 9
            undo() = 2
            of(0, 0, 3) = 1
            drop(0, 0) = 2
            image() = 1
            undo() = 1
            of(0, 0, 0) = 0
            """);
        Script.play("22, 23 traces, the text and tapes stay as they are", """
            trace("pa1=1") = 0
            tape(0, 2, 1) = 1
            feed(103) = 1
            image() = 0
            feed(97) = 2
            item(0, 0, 5) = 1
            tape(1, 1, 1) = 1
            undo() = 0
            count(6) = 2
            feed(49) = 3
            trace() = 1
            read(0, 0) = 5
            read(1, 0) = 0
            undo() = 0
            count(4) = 2
            run(1) = 0
            told(9) = 1
            """);
        Script.play("23 what is gone is as it was, however many went since", """
            set(3, 0) = 1
            set(0, 1) = 20
            put(2, 1, 1, 1, 1) = 0
            put(2, 2, 1, 1, 1) = 0
            put(2, 3, 1, 1, 1) = 0
            image() = 1
            trace("pa1=1;pa2=1;pa3=1;pa4=1;pa5=1;pa6=1;pa7=1;pa8=1;pa9=1;pb1=1;pb2=1;pb3=1;pb4=1;pb5=1;pb6=1") = 0
            """ + "run(0) = 0\n".repeat(60) + """
            told(13) = 902
            gone(0) = 105
            undo() = 1
            told(13) = 2
            gone(0) = 202
            gone(1) = 201
            gone(2) = -5
            """);
        Script.play("22 things are of both queues, no ghosts", """
            set(2, 1) = 2
            set(3, 0) = 1
            set(0, 2) = 20
            put(0, 0, 1, 1, 1) = 0
            get(0, 0) = 1
            put(0, 1, 1, 1, 1) = 0
            put(0, 2, 1, 1, 1) = 0
            image() = 2
            undo() = 2
            """);
    }

    private static void count() {
        Script.play("24 count", """
            set(2, 1) = 2
            put(0, 0, 1, 9, 1) = 0
            get(0, 0) = 1
            put(0, 1, 1, 9, 1) = 0
            pin(0, 1, true) = 0
            set(0, 10) = 20
            set(1, 10) = 10
            set(3, 0) = 1
            put(0, 2, 1, 2, 1) = 0
            put(0, 3, 1, 3, 1) = 0
            put(0, 4, 1, 4, 1) = 0
            set(0, 20) = 10
            put(0, 5, 1, 1, 1) = 0
            put(0, 6, 1, 1, 1) = 0
            get(0, 5) = 1
            get(0, 6) = 1
            count(0) = 1
            count(1) = 2
            count(2) = 3
            count(3) = 1
            feed(1) = 1
            feed(1) = 2
            book(0, 0, 0) = 1
            count(4) = 0
            count(5) = 1
            count(6) = 2
            count(7) = BAD
            count(-1) = BAD
            count(MAX) = BAD
            count(MIN) = BAD
            """);
    }
}
