/** What has no bounds goes on as long as an object is used, which is 512 calls: tallies, what WENT, questions. */
final class NoBoundsTest {
    private NoBoundsTest() {
    }

    public static void main(String[] args) {
        savedAndHad();
        missedAndHaunted();
        paid();
        went();
        victimsBehindMany();
        imageBehindMany();
        lastCalls();
        Script.end();
    }

    private static String clauses(String clause, int times) {
        return (clause + ";").repeat(times - 1) + clause;
    }

    /** 20 hits a run, 99 each. */
    private static void savedAndHad() {
        StringBuilder lines = new StringBuilder("put(0, 0, 1, 1, 99) = 0\n");
        lines.append("trace(\"").append(clauses("ga0", 20)).append("\") = 0\n");
        lines.append("run(0) = 20\n".repeat(426));
        lines.append("told(8) = 8520 | told(11) = 843480 | told(9) = 0 | told(10) = 0 | told(12) = 99");
        Script.play("HAD and SAVED: no bounds", lines.toString());
    }

    private static void missedAndHaunted() {
        String ghost = "set(3, 0) = 1 | set(0, 1) = 20 | put(0, 0, 1, 1, 1) = 0 | put(0, 1, 1, 1, 1) = 0\n";
        StringBuilder lines = new StringBuilder(ghost + "trace(\"" + clauses("ga0", 20) + "\") = 0\n");
        lines.append("run(0) = 0\n".repeat(423));
        lines.append("told(9) = 8460 | told(10) = 8460 | told(8) = 0 | told(11) = 0 | of(0, 0, 0) = 3");
        Script.play("MISSED and HAUNTED: no bounds", lines.toString());
        lines.setLength(0);
        lines.append("trace(\"" + clauses("ga0", 20) + "\") = 0\n").append("run(0) = 0\n".repeat(430));
        lines.append("told(9) = 8600 | told(10) = 0");
        Script.play("MISSED alone: no bounds", lines.toString());
    }

    /** As one weighs as much as CAPACITY, and no more than one is a GHOST, each key is new when it comes again. */
    private static String eachKeyOnce(int puts) {
        StringBuilder lines = new StringBuilder("set(3, 0) = 1 | set(0, 1) = 20\n");
        for (int i = 0; i < puts; i++) {
            lines.append("put(").append(i / 100 % 4).append(", ").append(i % 100).append(", ").append(i)
                .append(", 1, 99) = 0\n");
        }
        return lines.toString();
    }

    private static void paid() {
        Script.play("PAID: no bounds", eachKeyOnce(505) + "told(12) = 49995 | told(13) = 504 | told(11) = 0");
    }

    /** How many WENT in all; the KEYS of 20 at most. */
    private static void went() {
        StringBuilder lines = new StringBuilder(eachKeyOnce(480) + "told(13) = 479\n");
        for (int k = 0; k < 20; k++) {
            lines.append("gone(").append(k).append(") = ").append(78 - k).append('\n');
        }
        lines.append("gone(20) = -5 | gone(21) = -5 | gone(399) = -5 | gone(400) = -5 | gone(478) = -5\n");
        lines.append("gone(MAX) = -5");
        Script.play("how many WENT in all: no bounds; 20 at most are kept", lines.toString());
        lines.setLength(0);
        lines.append("set(3, 0) = 1 | set(0, 1) = 20 | trace(\"" + clauses("pa1=1;pb2=1;pc3=1", 5) + "\") = 0\n");
        lines.append("run(0) = 0\n".repeat(414));
        lines.append("told(13) = 6209 | told(12) = 6210 | gone(0) = 102 | gone(1) = 1 | gone(19) = 1 | gone(20) = -5");
        Script.play("how many WENT by runs: no bounds", lines.toString());
    }

    private static void victimsBehindMany() {
        StringBuilder lines = new StringBuilder(eachKeyOnce(390) + "set(0, 99) = 1\n");
        for (int i = 0; i < 40; i++) {
            lines.append("put(0, ").append(i).append(", 1, 1, 1) = 0\n");
        }
        lines.append("told(13) = 389 | victim(0) = 389 | victim(1) = 0 | victim(10) = 9 | victim(11) = 10\n");
        lines.append("victim(12) = 11 | victim(40) = 39 | victim(41) = -5\n");
        lines.append("gone(0) = 388 | gone(19) = 369 | told(13) = 389\n");
        lines.append("set(1, 0) = 1 | set(0, 1) = 99 | told(13) = 429 | gone(0) = 38 | gone(19) = 19 | gone(20) = -5");
        Script.play("11 behind many that WENT", lines.toString());
    }

    private static void imageBehindMany() {
        StringBuilder lines = new StringBuilder(eachKeyOnce(410) + "image() = 1 | told(13) = 409 | gone(0) = 8\n");
        for (int i = 50; i < 90; i++) {
            lines.append("put(0, ").append(i).append(", 1, 1, 1) = 0\n");
        }
        lines.append("told(13) = 449 | gone(0) = 88 | gone(19) = 69 | undo() = 1 | told(13) = 409\n");
        for (int k = 0; k < 9; k++) {
            lines.append("gone(").append(k).append(") = ").append(8 - k).append('\n');
        }
        for (int k = 9; k < 20; k++) {
            lines.append("gone(").append(k).append(") = ").append(408 - k).append('\n');
        }
        lines.append("gone(20) = -5 | key(1, 0) = 9 | key(3, 0) = 8 | told(12) = 40590");
        Script.play("22, 23 behind many that WENT", lines.toString());
    }

    /** An object is used for at most 512 calls: the dearest ones, up to the last. */
    private static void lastCalls() {
        String start = "set(0, 99) = 20 | put(0, 0, 1, 1, 1) = 0 | trace(\"pa1=9;ga0;ga1\") = 0 | image() = 1\n";
        String[] calls = {"odds(0, 2, 0) = 1", "need(0, 1) = 1", "need(0, 20) = -5", "would(0, 0) = 2", "victim(0) = 0",
            "mean(1, 0) = 1", "image() = 1", "undo() = 1", "gone(0) = -5", "told(13) = 0", "feed(-1) = BAD",
            "judge(0, 0) = 100", "looked() = -5"};
        for (String call : calls) {
            Script.play("up to the last of 512 calls", start + (call + "\n").repeat(Script.MOST_CALLS - 17));
        }
        Script.play("the last of 512 calls changes what it is due to", "looked() = -5\n".repeat(510) + """
            put(0, 0, 7, 1, 1) = 0 | get(0, 0) = 7
            """);
    }
}
