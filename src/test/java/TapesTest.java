/** Promises 25 to 28: tape, item, read, shift. */
final class TapesTest {
    private TapesTest() {
    }

    public static void main(String[] args) {
        tape();
        item();
        shift();
        Script.end();
    }

    private static void tape() {
        Script.play("25 tape", """
            tape(0, 0, 60) = 1
            tape(5, 4, 0) = 1
            read(0, 59) = 0
            read(0, 60) = NO
            read(5, 0) = NO
            item(5, 0, 1) = PLACE
            tape(0, 0, 61) = BAD
            tape(0, 0, MAX) = BAD
            tape(0, 5, 1) = BAD
            tape(0, -2, 1) = BAD
            tape(0, 5, -1) = BAD
            tape(0, 5, 61) = BAD
            tape(0, 0, -1) = SIZE
            tape(0, 3, MIN) = SIZE
            tape(6, 0, 1) = NONE
            tape(-1, 0, 1) = NONE
            tape(6, 9, 99) = NONE
            read(0, 59) = 0
            # A new row is all 0, also of another sort and length.
            item(0, 5, 7) = 1
            tape(0, 2, 10) = 1
            read(0, 5) = 0
            item(0, 0, 7) = 1
            item(0, 9, 7) = 1
            tape(0, 2, 9) = 1
            read(0, 0) = 0
            tape(0, 2, 10) = 1
            read(0, 9) = 0
            tape(0, -1, -5) = 1
            read(0, 0) = NO
            item(0, 0, 1) = NOTHING
            tape(0, -1, 99) = 1
            tape(0, 3, 1) = 1
            read(0, 0) = 0
            """);
    }

    private static void item() {
        Script.play("26, 27 item and read", """
            tape(0, 0, 2) = 1
            item(0, 0, 127) = 1
            item(0, 1, 128) = 1
            read(0, 0) = 127
            read(0, 1) = -128
            item(0, 0, -129) = 1
            read(0, 0) = 127
            item(0, 0, 256) = 1
            read(0, 0) = 0
            tape(1, 1, 2) = 1
            item(1, 0, 32767) = 1
            item(1, 1, 32768) = 1
            read(1, 0) = 32767
            read(1, 1) = -32768
            item(1, 1, 65536) = 1
            read(1, 1) = 0
            tape(2, 2, 2) = 1
            item(2, 0, 2147483647) = 1
            item(2, 1, 2147483648) = 1
            read(2, 0) = 2147483647
            read(2, 1) = -2147483648
            item(2, 1, 4294967296) = 1
            read(2, 1) = 0
            tape(3, 3, 2) = 1
            item(3, 0, 9223372036854775807) = 1
            item(3, 1, -9223372036854775808) = 1
            read(3, 0) = 9223372036854775807
            read(3, 1) = -9223372036854775808
            tape(4, 4, 2) = 1
            item(4, 0, 2) = 1
            item(4, 1, 4294967296) = 1
            read(4, 0) = 1
            read(4, 1) = 1
            item(4, 1, 0) = 1
            read(4, 1) = 0
            item(4, 1, -1) = 1
            read(4, 1) = 1
            item(0, -1, 0) = PLACE
            item(0, 2, 0) = PLACE
            item(0, MAX, 0) = PLACE
            item(0, MIN, 0) = PLACE
            item(5, 0, 0) = NOTHING
            item(5, -1, 0) = NOTHING
            item(6, 0, 0) = NONE
            item(-1, -1, 0) = NONE
            read(0, -1) = NO
            read(0, 2) = NO
            read(0, MAX) = NO
            read(0, MIN) = NO
            read(5, 0) = NO
            read(6, 0) = NO
            read(-1, 0) = NO
            """);
    }

    private static void shift() {
        Script.play("28 shift", """
            tape(0, 2, 5) = 1
            tape(1, 2, 3) = 1
            item(0, 0, 10) = 1
            item(0, 1, 11) = 1
            item(0, 2, 12) = 1
            item(0, 3, 13) = 1
            item(0, 4, 14) = 1
            shift(0, 2, 1, 1, 2) = 2
            read(1, 0) = 0
            read(1, 1) = 12
            read(1, 2) = 13
            read(0, 2) = 12
            # Of the same tape: as they all were before.
            shift(0, 0, 0, 1, 4) = 4
            read(0, 0) = 10
            read(0, 1) = 10
            read(0, 2) = 11
            read(0, 3) = 12
            read(0, 4) = 13
            shift(0, 1, 0, 0, 4) = 4
            read(0, 0) = 10
            read(0, 1) = 11
            read(0, 2) = 12
            read(0, 3) = 13
            read(0, 4) = 13
            shift(0, 0, 1, 0, 3) = 3
            shift(0, 0, 1, 0, 4) = PLACE
            shift(1, 0, 0, 0, 4) = PLACE
            shift(1, 1, 0, 0, 3) = PLACE
            shift(0, 0, 1, 1, 3) = PLACE
            shift(0, -1, 1, 0, 1) = PLACE
            shift(0, 0, 1, -1, 1) = PLACE
            shift(0, 0, 1, 0, -1) = PLACE
            shift(0, MAX, 1, 0, MAX) = PLACE
            shift(0, MAX, 1, 0, 1) = PLACE
            shift(0, 1, 1, 1, MAX) = PLACE
            shift(0, MIN, 1, MIN, MIN) = PLACE
            # None from the very end on is no refusal.
            shift(0, 5, 1, 3, 0) = 0
            shift(0, 6, 1, 3, 0) = PLACE
            shift(0, 5, 1, 4, 0) = PLACE
            shift(0, -1, 1, 0, 0) = PLACE
            tape(2, 1, 3) = 1
            shift(0, 0, 2, 0, 1) = CAST
            shift(2, 0, 0, 0, 1) = CAST
            shift(0, 9, 2, 9, -1) = CAST
            shift(0, 0, 3, 0, 1) = NOTHING
            shift(3, 0, 0, 0, 1) = NOTHING
            shift(3, 0, 3, 0, -1) = NOTHING
            shift(3, 9, 2, 9, -1) = NOTHING
            shift(6, 0, 0, 0, 1) = NONE
            shift(0, 0, 6, 0, 1) = NONE
            shift(-1, 0, 0, 0, 1) = NONE
            shift(0, 0, -1, 0, 1) = NONE
            shift(3, 0, 6, 0, 1) = NONE
            read(1, 0) = 10
            read(1, 1) = 11
            read(1, 2) = 12
            """);
    }
}
