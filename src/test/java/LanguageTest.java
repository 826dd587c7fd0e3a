import java.io.IOException;
import java.nio.file.Files;
import java.nio.file.Path;
import java.util.ArrayList;
import java.util.HashSet;
import java.util.List;
import java.util.Set;
import java.util.regex.Matcher;
import java.util.regex.Pattern;

/** Some rules of LANGUAGE.md, as far as the words of the program tell: run where src is. */
final class LanguageTest {
    private static final String[] RULED_OUT = {"import", "package", "throw", "throws", "try", "catch", "finally",
        "synchronized", "assert", "var", "Object", "System\\.(?!arraycopy)", "Math\\.\\w*Exact", "equals", "hashCode",
        "toString", "static\\s*\\{", "->", "::", "@"};
    private static final int MOST_LINES = 60, MOST_CLASSES = 12, MOST_FIELDS = 20;

    private LanguageTest() {
    }

    public static void main(String[] args) throws IOException {
        String source = Files.readString(Path.of("src/main/java/SegmentedCache.java"));
        Script.check("signs outside 1 .. 127", source.chars().filter(c -> c > 127 || c < 1).count(), 0);
        String bare = bare(source);
        for (String word : RULED_OUT) {
            String pattern = Character.isLetter(word.charAt(0)) ? "\\b" + word + "\\b" : word;
            pattern = word.endsWith(")") || word.endsWith("{") ? word : pattern;
            Script.check("ruled out: " + word, found(bare, pattern), 0);
        }
        Script.check("texts joined by +", found(bare, "\"\\s*\\+|\\+\\s*\""), 0);
        Script.check("classes", Math.max(found(bare, "\\bclass\\b"), MOST_CLASSES), MOST_CLASSES);
        lengths(bare.split("\n"));
        library(bare);
        loops(bare);
        Script.end();
    }

    /** Of classes that aren't its own the program names three only, and of Math what rule 4 allows. */
    private static void library(String bare) {
        Set<String> known = new HashSet<>(Set.of("Math", "System", "Long"));
        for (String own : all(bare, "\\bclass (\\w+)")) {
            known.add(own);
        }
        for (String name : all(bare, "\\b([A-Z][a-z]\\w*)\\b")) {
            Script.check("the program names " + name, known.contains(name) ? 1 : 0, 1);
        }
        for (String name : all(bare, "\\bMath\\.(\\w+)")) {
            Script.check("of Math: " + name, Set.of("min", "max", "floorMod").contains(name) ? 1 : 0, 1);
        }
    }

    /** Each loop counts up to a bound that stands in its own line. */
    private static void loops(String bare) {
        Script.check("loops without a counter", found(bare, "\\b(while|do)\\b"), 0);
        String counted = "for \\(int (\\w+) = \\w+; \\1 <=? [\\w.\\[\\]]+( && [^;]+)?; \\1\\+\\+\\)";
        Script.check("loops that count", found(bare, counted), found(bare, "\\bfor\\b"));
    }

    private static List<String> all(String bare, String pattern) {
        Matcher matcher = Pattern.compile(pattern).matcher(bare);
        List<String> names = new ArrayList<>();
        while (matcher.find()) {
            names.add(matcher.group(1));
        }
        return names;
    }

    /** Without comments, and with nothing in texts and signs. */
    private static String bare(String source) {
        return source.replaceAll("(?s)/\\*.*?\\*/", "").replaceAll("//[^\n]*", "")
            .replaceAll("'[^'\n]*'", "' '").replaceAll("\"[^\"\n]*\"", "\"\"");
    }

    private static long found(String bare, String pattern) {
        Matcher matcher = Pattern.compile(pattern).matcher(bare);
        long times = 0;
        while (matcher.find()) {
            times++;
        }
        return times;
    }

    /** A method begins with a line that ends with ") {" at 4 or 8 blanks, and ends with "}" there. */
    private static void lengths(String[] lines) {
        int fields = 0;
        for (int i = 0; i < lines.length; i++) {
            Matcher head = Pattern.compile("^( {4}| {8})[a-zA-Z].*\\) \\{$").matcher(lines[i]);
            if (lines[i].contains(" class ")) {
                fields = 0;
            } else if (head.matches() && !lines[i].strip().matches("(if|for|while|switch)\\b.*")) {
                int end = i;
                while (!lines[end].equals(head.group(1) + "}")) {
                    end++;
                }
                Script.check("lines of " + lines[i].strip(), Math.max(end - i + 1, MOST_LINES), MOST_LINES);
                long takes = found(lines[i], ",") + 1;
                Script.check("what it takes: " + lines[i].strip(), Math.max(takes, 7), 7);
                i = end;
            } else if (lines[i].strip().endsWith(";") && !lines[i].contains("static final")) {
                fields++;
                Script.check("fields at " + lines[i].strip(), Math.max(fields, MOST_FIELDS), MOST_FIELDS);
            }
        }
    }
}
