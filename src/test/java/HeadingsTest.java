import java.io.IOException;
import java.nio.file.Files;
import java.nio.file.Path;
import java.util.ArrayList;
import java.util.List;
import java.util.regex.Matcher;
import java.util.regex.Pattern;

/** What the interface says ahead of which calls, and the order of the face: run where src is. */
final class HeadingsTest {
    private static final String[] DUE = {
        "NONE", "BAD", "STATE", "FULL", "NO", "SegmentedCache",
        "---- how it is set.", "set", "told",
        "---- things.", "put", "get", "drop", "pin", "of", "key", "gone", "victim",
        "---- traces.", "feed", "trace", "run", "would", "need", "odds", "mean",
        "---- books.", "book", "looked",
        "---- judging, the image, tapes.", "judge", "image", "undo", "count", "tape", "item", "read", "shift"};

    private HeadingsTest() {
    }

    public static void main(String[] args) throws IOException {
        List<String> seen = new ArrayList<>();
        for (String line : Files.readAllLines(Path.of("src/main/java/SegmentedCache.java"))) {
            seen.addAll(told(line));
        }
        for (int i = 0; i < Math.max(DUE.length, seen.size()); i++) {
            String due = i < DUE.length ? DUE[i] : "nothing";
            String got = i < seen.size() ? seen.get(i) : "nothing";
            Script.check("number " + i + " of the face is " + got + " where due is " + due, got.equals(due) ? 1 : 0, 1);
        }
        Script.end();
    }

    /** The heading, the constants, or the call that a line of the class itself tells. */
    private static List<String> told(String line) {
        List<String> names = new ArrayList<>();
        if (line.startsWith("    // ----")) {
            names.add(line.strip().substring("// ".length()) + ".");
        } else if (line.startsWith("    public static final")) {
            Matcher constant = Pattern.compile("(\\w+) =").matcher(line);
            while (constant.find()) {
                names.add(constant.group(1));
            }
        } else if (line.startsWith("    public ")) {
            Matcher call = Pattern.compile("(\\w+)\\(").matcher(line);
            if (call.find()) {
                names.add(call.group(1));
            }
        }
        return names;
    }
}
