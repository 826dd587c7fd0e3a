/** Promises 4 to 11: put, get, drop, pin, of, key, gone, victim; trim and hits by them. */
final class ThingsTest {
    private ThingsTest() {
    }

    public static void main(String[] args) {
        put();
        putByGhosts();
        trim();
        get();
        drop();
        pin();
        of();
        key();
        gone();
        victim();
        Script.end();
    }

    private static void put() {
        Script.play("4 put", """
            put(0, 0, 5, 1, 0) = 0
            put(3, 99, -2147483648, 9, 99) = 0
            get(3, 99) = -2147483648
            of(0, 0, 1) = 1
            of(0, 0, 2) = 0
            of(3, 99, 1) = 9
            of(3, 99, 2) = 99
            told(12) = 99
            # It is there: value, weight and cost are as told now, and it is hit; nothing is paid.
            put(0, 0, 6, 2, 3) = 2
            of(0, 0, 0) = 1
            of(0, 0, 1) = 2
            of(0, 0, 2) = 3
            of(0, 0, 3) = 1
            of(0, 0, 6) = 1
            told(4) = 11
            told(12) = 99
            told(8) = 1
            told(11) = 99
            put(0, 0, 7, 3, 4) = 2
            # Twice hit, so it is protected.
            of(0, 0, 0) = 2
            told(4) = 9
            told(5) = 3
            get(0, 0) = 7
            """);
        Script.play("4 put, told wrong", """
            put(-1, 0, 0, 1, 0) = NONE
            put(4, 0, 0, 1, 0) = NONE
            put(0, -1, 0, 1, 0) = NONE
            put(0, 100, 0, 1, 0) = NONE
            put(4, 100, 0, 0, -1) = NONE
            put(MIN, MAX, 0, 1, 0) = NONE
            put(0, 0, 0, 0, 0) = BAD
            put(0, 0, 0, 10, 0) = BAD
            put(0, 0, 0, 1, -1) = BAD
            put(0, 0, 0, 1, 100) = BAD
            put(0, 0, 0, MIN, MAX) = BAD
            set(0, 4) = 20
            put(0, 0, 0, 5, 0) = FULL
            put(0, 0, 0, 5, 100) = BAD
            put(0, 0, 0, 10, 0) = BAD
            put(0, 0, 0, 4, 0) = 0
            put(0, 0, 0, 5, 0) = FULL
            of(0, 0, 1) = 4
            of(0, 0, 3) = 0
            told(12) = 0
            count(0) = 1
            """);
        Script.play("4 lives are what chances begin with", """
            set(3, 9) = 1
            put(0, 0, 0, 1, 0) = 0
            set(3, 0) = 9
            put(0, 1, 0, 1, 0) = 0
            of(0, 0, 4) = 9
            of(0, 1, 4) = 0
            """);
    }

    private static void putByGhosts() {
        Script.play("4 by a ghost of probation the border is less", """
            set(3, 0) = 1
            set(0, 9) = 20
            told(1) = 9
            put(0, 0, 1, 9, 1) = 0
            put(0, 1, 1, 9, 1) = 0
            of(0, 0, 0) = 3
            # The weight told now counts, not the ghost's; its chances are none.
            set(3, 5) = 0
            put(0, 0, 8, 2, 40) = 1
            told(1) = 7
            told(12) = 42
            of(0, 0, 0) = 2
            of(0, 0, 1) = 2
            of(0, 0, 3) = 0
            of(0, 0, 4) = 0
            of(0, 0, 5) = 0
            get(0, 0) = 8
            of(0, 1, 0) = 3
            put(0, 1, 1, 9, 1) = 1
            # 0 at least: all that is protected comes to probation then.
            told(1) = 0
            count(1) = 0
            """);
        Script.play("4 by a ghost of protected the border is more", """
            set(2, 1) = 2
            put(0, 0, 1, 9, 1) = 0
            get(0, 0) = 1
            put(0, 1, 1, 9, 1) = 0
            pin(0, 1, true) = 0
            set(0, 10) = 20
            of(0, 0, 0) = 4
            set(1, 3) = 10
            put(0, 0, 5, 1, 7) = 1
            told(1) = 4
            of(0, 0, 0) = 2
            of(0, 0, 4) = 0
            told(7) = 0
            told(12) = 9
            """);
        Script.play("4 capacity at most", """
            set(2, 1) = 2
            put(0, 0, 1, 9, 1) = 0
            get(0, 0) = 1
            put(0, 1, 1, 9, 1) = 0
            pin(0, 1, true) = 0
            set(0, 10) = 20
            of(0, 0, 0) = 4
            drop(0, 1) = 1
            put(0, 0, 5, 3, 7) = 1
            told(1) = 10
            """);
        Script.play("4 what comes again is pinned no more", """
            put(0, 0, 1, 9, 1) = 0
            pin(0, 0, true) = 0
            get(0, 0) = 1
            drop(0, 0) = 1
            put(0, 0, 1, 9, 1) = 0
            of(0, 0, 5) = 0
            of(0, 0, 3) = 0
            """);
    }

    private static void trim() {
        Script.play("trim: a second chance ahead of going", """
            set(0, 3) = 20
            put(0, 0, 1, 1, 1) = 0
            put(0, 1, 1, 1, 1) = 0
            put(0, 2, 1, 1, 1) = 0
            put(0, 3, 1, 1, 1) = 0
            # Each spends its chance, in order, so the first goes all the same.
            of(0, 0, 0) = 3
            of(0, 1, 4) = 0
            of(0, 3, 4) = 0
            key(1, 0) = 1
            key(1, 1) = 2
            key(1, 2) = 3
            put(0, 4, 1, 1, 1) = 0
            of(0, 1, 0) = 3
            of(0, 4, 4) = 1
            put(0, 5, 1, 1, 1) = 0
            put(0, 6, 1, 1, 1) = 0
            of(0, 3, 0) = 3
            # 4 and 5 have chances yet; now all that is on probation spends them.
            put(0, 7, 1, 1, 1) = 0
            of(0, 4, 0) = 3
            of(0, 5, 4) = 0
            gone(0) = 4
            """);
        Script.play("trim: none on probation that isn't pinned, so the oldest protected goes, with its chances", """
            set(2, 1) = 2
            set(1, 20) = 10
            put(0, 0, 1, 5, 1) = 0
            get(0, 0) = 1
            put(0, 1, 1, 5, 1) = 0
            get(0, 1) = 1
            put(0, 2, 1, 5, 1) = 0
            pin(0, 2, true) = 0
            of(0, 0, 4) = 1
            set(1, 10) = 20
            set(0, 14) = 20
            of(0, 0, 0) = 4
            of(0, 1, 0) = 2
            told(7) = 5
            told(6) = 0
            pin(0, 1, true) = 0
            set(0, 4) = 14
            # None is loose: that is all, though they weigh more.
            told(4) = 5
            told(5) = 5
            told(13) = 1
            # The ghost weighs more than the capacity.
            told(7) = 0
            of(0, 0, 0) = 0
            """);
        Script.play("trim: pinned ones stay protected, the next oldest comes to probation", """
            set(2, 1) = 2
            put(0, 0, 1, 4, 1) = 0
            get(0, 0) = 1
            pin(0, 0, true) = 0
            put(0, 1, 1, 4, 1) = 0
            get(0, 1) = 1
            put(0, 2, 1, 4, 1) = 0
            get(0, 2) = 1
            of(0, 0, 0) = 2
            of(0, 1, 0) = 1
            of(0, 2, 0) = 2
            pin(0, 2, true) = 0
            set(1, 0) = 10
            of(0, 0, 0) = 2
            of(0, 2, 0) = 2
            told(5) = 8
            """);
        Script.play("trim: ghosts of either weigh the capacity at most, each for itself", """
            set(3, 0) = 1
            set(0, 5) = 20
            put(0, 0, 1, 3, 1) = 0
            put(0, 1, 1, 3, 1) = 0
            put(0, 2, 1, 3, 1) = 0
            # The first ghost was the oldest, and weighed too much with the second.
            told(6) = 3
            of(0, 0, 0) = 0
            of(0, 1, 0) = 3
            put(0, 3, 1, 2, 1) = 0
            told(6) = 3
            told(4) = 5
            put(0, 4, 1, 2, 1) = 0
            of(0, 2, 0) = 3
            of(0, 1, 0) = 0
            put(0, 5, 1, 2, 1) = 0
            # 3 and 2 are 5: as much as the capacity may stay.
            told(6) = 5
            key(3, 0) = 2
            key(3, 1) = 3
            """);
        Script.play("trim: ghosts of probation and of protected are weighed apart", """
            set(3, 0) = 1
            set(2, 1) = 2
            put(0, 0, 1, 9, 1) = 0
            get(0, 0) = 1
            put(0, 1, 1, 9, 1) = 0
            pin(0, 1, true) = 0
            set(0, 10) = 20
            told(7) = 9
            drop(0, 1) = 1
            put(0, 2, 1, 9, 1) = 0
            put(0, 3, 1, 9, 1) = 0
            told(6) = 9
            told(7) = 9
            set(0, 9) = 10
            told(6) = 9
            told(7) = 9
            set(0, 8) = 9
            told(6) = 0
            told(7) = 0
            """);
    }

    private static void get() {
        Script.play("5 get", """
            put(1, 5, -7, 2, 30) = 0
            put(1, 6, 9, 2, 1) = 0
            get(1, 5) = -7
            # Hit: the newest of its queue.
            of(1, 5, 3) = 1
            of(1, 5, 6) = 1
            told(8) = 1
            told(11) = 30
            get(1, 5) = -7
            of(1, 5, 0) = 2
            of(1, 5, 3) = 2
            told(8) = 2
            told(11) = 60
            told(9) = 0
            get(1, 7) = NO
            told(9) = 1
            told(10) = 0
            get(4, 0) = NO
            get(-1, 0) = NO
            get(0, 100) = NO
            get(0, -1) = NO
            get(MAX, MIN) = NO
            told(9) = 1
            told(8) = 2
            """);
        Script.play("5 get of a ghost is haunted, and stays one", """
            set(3, 0) = 1
            set(0, 2) = 20
            put(0, 0, 1, 2, 1) = 0
            put(0, 1, 1, 2, 1) = 0
            get(0, 0) = NO
            told(9) = 1
            told(10) = 1
            of(0, 0, 0) = 3
            get(0, 0) = NO
            told(10) = 2
            told(11) = 0
            """);
        Script.play("5 get trims: the border holds what rises", """
            set(1, 3) = 10
            put(0, 0, 1, 4, 1) = 0
            get(0, 0) = 1
            get(0, 0) = 1
            # It rose, and weighs more than the border, so it is on probation with no hits.
            of(0, 0, 0) = 1
            of(0, 0, 3) = 0
            """);
        Script.play("5 get of what then goes answers its value", """
            set(3, 0) = 1
            put(0, 0, 77, 9, 5) = 0
            pin(0, 0, true) = 0
            set(0, 5) = 20
            pin(0, 0, false) = 1
            get(0, 0) = 77
            told(8) = 1
            told(11) = 5
            of(0, 0, 0) = 0
            gone(0) = 0
            """);
        StringBuilder lines = new StringBuilder("put(0, 0, 1, 1, 99) = 0\n");
        for (int i = 1; i <= 101; i++) {
            lines.append("get(0, 0) = 1\n");
            lines.append("of(0, 0, 3) = ").append(Math.min(i, 99)).append('\n');
        }
        lines.append("told(11) = ").append(101 * 99).append('\n');
        Script.play("5 hits are 99 at most", lines.toString());
        Script.play("5 rise counts as it is now", """
            set(2, 3) = 2
            put(0, 0, 1, 1, 1) = 0
            get(0, 0) = 1
            get(0, 0) = 1
            of(0, 0, 0) = 1
            set(2, 1) = 3
            of(0, 0, 0) = 1
            get(0, 0) = 1
            of(0, 0, 0) = 2
            of(0, 0, 3) = 3
            """);
    }

    private static void drop() {
        Script.play("6 drop", """
            set(2, 1) = 2
            drop(0, 0) = 0
            put(0, 0, 1, 3, 1) = 0
            drop(0, 0) = 1
            of(0, 0, 0) = 0
            told(4) = 0
            told(6) = 0
            told(13) = 0
            gone(0) = -5
            put(0, 0, 1, 3, 1) = 0
            get(0, 0) = 1
            drop(0, 0) = 2
            told(5) = 0
            told(7) = 0
            # Pinned ones are dropped, too.
            put(0, 0, 1, 3, 1) = 0
            pin(0, 0, true) = 0
            drop(0, 0) = 1
            drop(4, 0) = NONE
            drop(-1, 0) = NONE
            drop(0, 100) = NONE
            drop(0, -1) = NONE
            """);
        Script.play("6 drop of ghosts", """
            set(3, 0) = 1
            set(2, 1) = 2
            put(0, 0, 1, 9, 1) = 0
            get(0, 0) = 1
            put(0, 1, 1, 9, 1) = 0
            pin(0, 1, true) = 0
            set(0, 10) = 20
            put(0, 2, 1, 9, 1) = 0
            drop(0, 2) = 3
            told(6) = 0
            drop(0, 0) = 4
            told(7) = 0
            drop(0, 0) = 0
            # It is no ghost, so it is new.
            drop(0, 1) = 1
            put(0, 0, 1, 1, 1) = 0
            told(1) = 10
            """);
    }

    private static void pin() {
        Script.play("7 pin", """
            pin(0, 0, true) = STATE
            put(0, 0, 1, 3, 1) = 0
            pin(0, 0, false) = 0
            pin(0, 0, true) = 0
            of(0, 0, 5) = 1
            pin(0, 0, true) = 1
            pin(0, 0, false) = 1
            of(0, 0, 5) = 0
            pin(4, 0, true) = NONE
            pin(-1, 0, true) = NONE
            pin(0, -1, true) = NONE
            pin(0, 100, false) = NONE
            """);
        Script.play("7 a ghost is no thing", """
            set(3, 0) = 1
            set(0, 2) = 20
            put(0, 0, 1, 2, 1) = 0
            put(0, 1, 1, 2, 1) = 0
            of(0, 0, 0) = 3
            pin(0, 0, true) = STATE
            pin(0, 0, false) = STATE
            """);
        Script.play("7 a pinned one doesn't go; the loose one behind it does, though it is newer", """
            set(3, 0) = 1
            set(0, 3) = 20
            put(0, 0, 1, 2, 1) = 0
            pin(0, 0, true) = 0
            put(0, 1, 1, 1, 1) = 0
            put(0, 2, 1, 2, 1) = 0
            of(0, 0, 0) = 1
            of(0, 1, 0) = 3
            # 2 and 2 are more than 3, so the new one went as well.
            of(0, 2, 0) = 3
            told(4) = 2
            # It rises all the same.
            get(0, 0) = 1
            get(0, 0) = 1
            of(0, 0, 0) = 2
            of(0, 0, 5) = 1
            """);
    }

    private static void of() {
        Script.play("8 of", """
            set(3, 4) = 1
            put(2, 7, 1, 3, 41) = 0
            put(2, 8, 1, 4, 42) = 0
            of(2, 7, 0) = 1
            of(2, 7, 1) = 3
            of(2, 7, 2) = 41
            of(2, 7, 3) = 0
            of(2, 7, 4) = 4
            of(2, 7, 5) = 0
            of(2, 7, 6) = 0
            of(2, 8, 6) = 1
            of(2, 9, 0) = 0
            of(2, 9, 1) = -5
            of(2, 9, 2) = -5
            of(2, 9, 3) = -5
            of(2, 9, 4) = -5
            of(2, 9, 5) = -5
            of(2, 9, 6) = -5
            of(2, 7, 7) = NONE
            of(2, 7, -1) = NONE
            of(2, 9, 7) = NONE
            of(4, 0, 0) = NONE
            of(-1, 0, 0) = NONE
            of(0, 100, 0) = NONE
            of(0, -1, 0) = NONE
            of(0, 0, MAX) = NONE
            of(0, 0, MIN) = NONE
            # What was dropped has nothing any more.
            drop(2, 7) = 1
            of(2, 7, 1) = -5
            of(2, 7, 2) = -5
            of(2, 8, 6) = 0
            """);
        Script.play("8 of a ghost", """
            set(3, 0) = 1
            set(0, 5) = 20
            put(0, 0, 1, 2, 1) = 0
            put(0, 1, 1, 3, 1) = 0
            put(0, 2, 1, 5, 1) = 0
            of(0, 0, 0) = 3
            of(0, 0, 1) = 2
            of(0, 0, 2) = -5
            of(0, 0, 3) = -5
            of(0, 0, 4) = -5
            of(0, 0, 5) = -5
            of(0, 0, 6) = 0
            of(0, 1, 1) = 3
            of(0, 1, 6) = 1
            """);
    }

    private static void key() {
        Script.play("9 key", """
            set(2, 1) = 2
            put(3, 99, 1, 1, 1) = 0
            put(0, 5, 1, 1, 1) = 0
            put(1, 0, 1, 1, 1) = 0
            put(2, 2, 1, 1, 1) = 0
            get(0, 5) = 1
            get(3, 99) = 1
            key(1, 0) = 100
            key(1, 1) = 202
            key(1, 2) = -5
            key(2, 0) = 5
            key(2, 1) = 399
            key(2, 2) = -5
            key(3, 0) = -5
            key(4, 0) = -5
            key(1, MAX) = -5
            key(1, -1) = NONE
            key(1, MIN) = NONE
            key(0, 0) = NONE
            key(5, 0) = NONE
            key(-1, 0) = NONE
            """);
        Script.play("9 key of ghosts", """
            set(2, 1) = 2
            set(3, 0) = 1
            set(1, 20) = 10
            put(0, 0, 1, 3, 1) = 0
            get(0, 0) = 1
            put(0, 1, 1, 3, 1) = 0
            get(0, 1) = 1
            put(0, 2, 1, 5, 1) = 0
            pin(0, 2, true) = 0
            set(0, 6) = 20
            # Both weigh as much as the border, so they went as protected ones.
            key(4, 0) = 0
            key(4, 1) = 1
            key(4, 2) = -5
            put(0, 3, 1, 2, 1) = 0
            put(0, 4, 1, 2, 1) = 0
            key(3, 0) = 3
            key(3, 1) = 4
            key(3, 2) = -5
            """);
    }

    private static void gone() {
        Script.play("10 gone", """
            set(3, 0) = 1
            set(0, 1) = 20
            put(0, 0, 1, 1, 1) = 0
            put(0, 1, 1, 1, 1) = 0
            put(0, 2, 1, 1, 1) = 0
            gone(0) = 1
            gone(1) = 0
            gone(2) = -5
            # The same key may go again.
            put(0, 1, 1, 1, 1) = 1
            put(0, 3, 1, 1, 1) = 0
            gone(0) = 1
            gone(1) = 2
            gone(2) = 1
            gone(3) = 0
            gone(4) = -5
            gone(-1) = NONE
            gone(MIN) = NONE
            gone(MAX) = -5
            """);
        StringBuilder lines = new StringBuilder("set(3, 0) = 1\nset(0, 1) = 20\n");
        for (int i = 0; i <= 50; i++) {
            lines.append("put(1, ").append(i).append(", 1, 1, 1) = 0\n");
        }
        for (int k = 0; k < 20; k++) {
            lines.append("gone(").append(k).append(") = ").append(149 - k).append('\n');
        }
        lines.append("gone(20) = -5\ngone(21) = -5\ntold(13) = 50\n");
        Script.play("10 20 are kept", lines.toString());
    }

    private static void victim() {
        Script.play("11 victim", """
            set(2, 1) = 2
            put(0, 0, 1, 2, 1) = 0
            get(0, 0) = 1
            put(0, 1, 1, 2, 1) = 0
            set(3, 0) = 1
            put(0, 2, 1, 2, 1) = 0
            put(0, 3, 1, 2, 1) = 0
            pin(0, 3, true) = 0
            # Probation is 1, 2, 3, 0 then; 1 and 0 have a chance each, 3 is pinned.
            victim(0) = 2
            victim(1) = 1
            victim(2) = 0
            victim(3) = -5
            victim(MAX) = -5
            victim(-1) = NONE
            victim(MIN) = NONE
            # It was only asked.
            of(0, 0, 0) = 2
            of(0, 1, 4) = 1
            told(0) = 20
            told(1) = 10
            told(13) = 0
            gone(0) = -5
            count(2) = 0
            """);
        Script.play("11 the border is 0, so a protected one comes to probation", """
            set(2, 1) = 2
            set(3, 0) = 1
            put(0, 0, 1, 1, 1) = 0
            get(0, 0) = 1
            set(3, 1) = 0
            put(0, 1, 1, 1, 1) = 0
            victim(0) = 0
            victim(1) = 1
            """);
        Script.play("11 what went ahead is no victim", """
            set(3, 0) = 1
            set(0, 2) = 20
            put(0, 0, 1, 1, 1) = 0
            put(0, 1, 1, 1, 1) = 0
            put(0, 2, 1, 1, 1) = 0
            put(0, 3, 1, 1, 1) = 0
            gone(1) = 0
            victim(0) = 2
            victim(1) = 3
            victim(2) = -5
            victim(3) = -5
            """);
        StringBuilder lines = new StringBuilder("set(0, 99) = 20\nset(3, 0) = 1\n");
        for (int i = 0; i < 99; i++) {
            lines.append("put(2, ").append(i).append(", 1, 1, 1) = 0\n");
        }
        for (int k = 0; k < 99; k++) {
            lines.append("victim(").append(k).append(") = ").append(200 + k).append('\n');
        }
        lines.append("victim(99) = -5\n");
        Script.play("11 as many as there are, not 20", lines.toString());
    }
}
