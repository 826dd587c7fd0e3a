import java.util.ArrayList;
import java.util.Collections;
import java.util.List;

/** All that can be asked of an object, and seen by what changes it: lists of calls, each for an object of its own. */
final class Questions {
    /** Keys of space 0 that tests of this kind have things under are below this. */
    private static final int NUMBERS = 8;

    private Questions() {
    }

    static List<List<String>> all() {
        List<String> things = things();
        // What a question changes would not be seen if it were always asked ahead of what can tell it.
        List<String> backward = new ArrayList<>(things);
        Collections.reverse(backward);
        List<String> undone = new ArrayList<>(List.of("undo()"));
        undone.addAll(things);
        List<String> ran = new ArrayList<>(List.of("trace()", "count(4)", "count(6)"));
        for (int trace = 0; trace < 6; trace++) {
            ran.add("run(" + trace + ")");
            ran.add("told(8)");
        }
        ran.addAll(things);
        return List.of(things, backward, undone, ran, tapes(), judged(), gets(), puts());
    }

    private static List<String> things() {
        List<String> all = new ArrayList<>();
        for (int what = 0; what < 14; what++) {
            all.add("told(" + what + ")");
        }
        for (int what = 0; what < 7; what++) {
            all.add("count(" + what + ")");
            for (int number = 0; number < NUMBERS; number++) {
                all.add("of(0, " + number + ", " + what + ")");
            }
            all.add("of(2, 5, " + what + ")");
            all.add("of(3, 77, " + what + ")");
        }
        for (int k = 0; k < 6; k++) {
            for (int where = 1; where < 5; where++) {
                all.add("key(" + where + ", " + k + ")");
            }
            all.add("gone(" + k + ")");
            all.add("victim(" + k + ")");
        }
        all.addAll(List.of("looked()", "mean(1, 0)", "mean(1, 1)", "mean(2, 0)", "mean(2, 1)"));
        for (int trace = 0; trace < 2; trace++) {
            for (int what = 0; what < 6; what++) {
                all.add("would(" + trace + ", " + what + ")");
            }
            all.addAll(List.of("need(" + trace + ", 1)", "odds(" + trace + ", 1, 0)", "odds(" + trace + ", 1, 1)"));
        }
        return all;
    }

    private static List<String> tapes() {
        List<String> all = new ArrayList<>();
        for (int tape = 0; tape < 6; tape++) {
            for (int i = 0; i < 6; i++) {
                all.add("read(" + tape + ", " + i + ")");
            }
            all.add("read(" + tape + ", 59)");
            // The lowest bits tell which sort it is.
            all.add("item(" + tape + ", 0, 6442549377)");
            all.add("read(" + tape + ", 0)");
        }
        return all;
    }

    /** Tapes again, with no item read. */
    private static List<String> judged() {
        List<String> all = new ArrayList<>();
        for (int tape = 0; tape < 6; tape++) {
            for (int i = 0; i < 4; i++) {
                all.add("judge(" + tape + ", " + i + ")");
            }
            for (int other = 0; other < 6; other++) {
                all.add("shift(" + tape + ", 0, " + other + ", 0, 1)");
            }
            all.add("shift(" + tape + ", 0, " + tape + ", 1, 2)");
        }
        return all;
    }

    private static List<String> gets() {
        List<String> all = new ArrayList<>();
        for (int number = 0; number < NUMBERS; number++) {
            all.add("get(0, " + number + ")");
            for (int what = 8; what < 14; what++) {
                all.add("told(" + what + ")");
            }
        }
        all.addAll(List.of("get(2, 5)", "get(3, 77)"));
        for (int number = 0; number < NUMBERS; number++) {
            all.addAll(List.of("drop(0, " + number + ")", "looked()", "put(0, " + number + ", 1, 1, 1)", "looked()"));
        }
        all.addAll(List.of("book(-1, 0, 0)", "feed(103)", "feed(97)", "feed(49)", "trace()", "count(4)", "count(6)"));
        all.addAll(List.of("undo()", "looked()"));
        for (int number = 0; number < NUMBERS; number++) {
            all.addAll(List.of("get(0, " + number + ")", "drop(0, " + number + ")", "looked()"));
        }
        all.add("get(2, 5)");
        return all;
    }

    private static List<String> puts() {
        List<String> all = new ArrayList<>();
        for (int number = 50; number < 62; number++) {
            String key = "3, " + number;
            all.addAll(List.of("put(" + key + ", 1, 1, 1)", "of(" + key + ", 4)", "get(" + key + ")"));
            all.addAll(List.of("of(" + key + ", 0)", "gone(0)", "told(1)", "told(4)", "told(5)", "told(6)", "told(7)"));
            all.add("told(13)");
        }
        return all;
    }
}
