import java.io.IOException;
import java.nio.file.Files;
import java.nio.file.Path;
import java.util.regex.Matcher;
import java.util.regex.Pattern;

/** The example of README.md answers what it says beside each call: run where README.md is. */
final class ReadmeTest {
    private static final Pattern CALL = Pattern.compile("cache\\.(\\w+\\(.*\\));\\s+// ([\\w-]+).*");
    private static final Pattern TEXT = Pattern.compile("for \\(char sign : \"(.*)\"\\.toCharArray\\(\\)\\) \\{");

    private ReadmeTest() {
    }

    public static void main(String[] args) throws IOException {
        SegmentedCache cache = new SegmentedCache();
        for (String line : Files.readAllLines(Path.of("README.md"))) {
            Matcher call = CALL.matcher(line);
            Matcher text = TEXT.matcher(line);
            if (call.matches()) {
                Script.one("README", call.group(1) + " = " + call.group(2), cache);
            } else if (text.matches()) {
                Script.feed(cache, text.group(1));
            }
        }
        Script.end();
    }
}
