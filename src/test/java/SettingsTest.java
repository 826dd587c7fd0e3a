/** Promises 1 to 3: a new object, set, told. */
final class SettingsTest {
    private SettingsTest() {
    }

    public static void main(String[] args) {
        newObject();
        set();
        setTrims();
        told();
        Script.end();
    }

    private static void newObject() {
        StringBuilder lines = new StringBuilder();
        for (int key = 0; key < 400; key++) {
            lines.append("of(").append(key / 100).append(", ").append(key % 100).append(", 0) = 0\n");
        }
        Script.play("1 nothing under any key", lines.toString());
        Script.play("1 a new object", """
            told(0) = 20
            told(1) = 10
            told(2) = 2
            told(3) = 1
            told(4) = 0
            told(5) = 0
            told(6) = 0
            told(7) = 0
            told(8) = 0
            told(9) = 0
            told(10) = 0
            told(11) = 0
            told(12) = 0
            told(13) = 0
            count(0) = 0
            count(1) = 0
            count(2) = 0
            count(3) = 0
            count(4) = 0
            count(5) = 0
            count(6) = 0
            key(1, 0) = -5
            key(2, 0) = -5
            key(3, 0) = -5
            key(4, 0) = -5
            gone(0) = -5
            victim(0) = -5
            looked() = -5
            run(0) = NONE
            undo() = STATE
            item(0, 0, 1) = NOTHING
            item(5, 0, 1) = NOTHING
            """);
        Script.play("1 objects share nothing, the first", "put(0, 0, 1, 1, 1) = 0\nimage() = 1\ntape(0, 0, 1) = 1");
        Script.play("1 objects share nothing, the second", "of(0, 0, 0) = 0\nundo() = STATE\nread(0, 0) = NO");
    }

    private static void set() {
        Script.play("2 set", """
            set(0, 30) = 20
            told(0) = 30
            told(1) = 10
            set(0, 5) = 30
            told(1) = 5
            set(0, 99) = 5
            told(1) = 5
            set(0, 0) = BAD
            set(0, 100) = BAD
            set(0, MIN) = BAD
            set(0, MAX) = BAD
            told(0) = 99
            set(1, 100) = BAD
            set(1, -1) = BAD
            set(1, 99) = 5
            set(1, 0) = 99
            told(1) = 0
            set(0, 1) = 99
            set(1, 2) = BAD
            set(1, 1) = 0
            told(0) = 1
            told(1) = 1
            set(2, 0) = BAD
            set(2, 10) = BAD
            set(2, 1) = 2
            set(2, 9) = 1
            told(2) = 9
            set(3, -1) = BAD
            set(3, 10) = BAD
            set(3, 0) = 1
            set(3, 9) = 0
            told(3) = 9
            set(4, 1) = NONE
            set(-1, 1) = NONE
            set(4, -1) = NONE
            set(MAX, MAX) = NONE
            set(MIN, MIN) = NONE
            told(2) = 9
            """);
    }

    private static void setTrims() {
        Script.play("2 border, then trim", """
            set(2, 1) = 2
            put(0, 0, 7, 4, 1) = 0
            get(0, 0) = 7
            put(0, 1, 8, 4, 1) = 0
            get(0, 1) = 8
            told(5) = 8
            of(0, 0, 3) = 1
            set(1, 7) = 10
            # The oldest comes to probation; its chances stay, its hits don't.
            of(0, 0, 0) = 1
            of(0, 0, 3) = 0
            of(0, 0, 4) = 1
            of(0, 1, 0) = 2
            of(0, 1, 3) = 1
            told(4) = 4
            told(5) = 4
            set(1, 3) = 7
            of(0, 1, 0) = 1
            of(0, 1, 6) = 1
            told(4) = 8
            told(5) = 0
            """);
        Script.play("2 capacity, then trim, the border with it", """
            set(2, 1) = 2
            set(3, 0) = 1
            put(0, 0, 7, 4, 1) = 0
            get(0, 0) = 7
            put(0, 1, 8, 3, 1) = 0
            set(0, 4) = 20
            # The border is 4: the protected one may stay, so the other goes.
            told(1) = 4
            of(0, 0, 0) = 2
            of(0, 1, 0) = 3
            gone(0) = 1
            set(0, 3) = 4
            # Now it comes to probation, and goes from there.
            of(0, 0, 0) = 0
            gone(0) = 0
            gone(1) = 1
            # Its ghost weighs 4, and that of the other had to leave ahead of it.
            told(6) = 0
            told(13) = 2
            """);
        Script.play("2 rise and lives don't trim, nor does pin", """
            set(3, 0) = 1
            put(0, 0, 1, 9, 1) = 0
            pin(0, 0, true) = 0
            set(0, 5) = 20
            of(0, 0, 0) = 1
            pin(0, 0, false) = 1
            of(0, 0, 0) = 1
            set(2, 3) = 2
            set(3, 1) = 0
            told(4) = 9
            set(1, 4) = 5
            # Its ghost weighs more than the capacity, so it is one no more at once.
            of(0, 0, 0) = 0
            gone(0) = 0
            told(13) = 1
            told(6) = 0
            """);
        Script.play("2 the same capacity trims too", """
            set(3, 0) = 1
            put(0, 0, 1, 9, 1) = 0
            pin(0, 0, true) = 0
            set(0, 5) = 20
            pin(0, 0, false) = 1
            set(0, 5) = 5
            told(13) = 1
            """);
    }

    private static void told() {
        Script.play("3 told", """
            set(2, 1) = 2
            set(3, 0) = 1
            set(0, 12) = 20
            put(0, 0, 1, 2, 10) = 0
            get(0, 0) = 1
            put(0, 1, 1, 3, 20) = 0
            put(0, 2, 1, 7, 30) = 0
            told(4) = 10
            told(5) = 2
            put(0, 3, 1, 1, 40) = 0
            told(6) = 3
            told(7) = 0
            told(8) = 1
            told(9) = 0
            told(10) = 0
            told(11) = 10
            told(12) = 100
            told(13) = 1
            get(0, 1) = NO
            get(3, 3) = NO
            told(8) = 1
            told(9) = 2
            told(10) = 1
            told(14) = NONE
            told(-1) = NONE
            told(MAX) = NONE
            told(MIN) = NONE
            """);
        Script.play("3 told of the ghosts of protected", """
            set(2, 1) = 2
            put(0, 0, 1, 9, 1) = 0
            get(0, 0) = 1
            put(0, 1, 1, 9, 1) = 0
            pin(0, 1, true) = 0
            set(0, 10) = 20
            told(6) = 0
            told(7) = 9
            told(5) = 0
            told(4) = 9
            """);
    }
}
