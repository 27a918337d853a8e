import java.io.IOException;
import java.nio.file.Files;
import java.nio.file.Path;
import java.util.regex.Matcher;
import java.util.regex.Pattern;

/** The table in BOUNDS.md names tests that are there, and that are called. */
public final class BoundsTableTest {
    private static final Due due = new Due();

    public static void main(String[] args) throws IOException {
        Matcher named = Pattern.compile("`(\\w+Test)\\.(\\w+)`").matcher(Files.readString(Path.of("BOUNDS.md")));
        while (named.find()) {
            String file = Files.readString(Path.of("src/test/java/" + named.group(1) + ".java"));
            due.is(named.group() + " is there", has(file, "private static void " + named.group(2) + "\\("), 1);
            due.is(named.group() + " is called", has(file, "(?m)^ +" + named.group(2) + "\\("), 1);
        }
        due.end();
    }

    private static int has(String file, String pattern) {
        return Pattern.compile(pattern).matcher(file).find() ? 1 : 0;
    }
}
