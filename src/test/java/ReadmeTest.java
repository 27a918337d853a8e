import java.io.File;
import java.io.IOException;
import java.lang.reflect.Method;
import java.lang.reflect.Modifier;
import java.nio.charset.StandardCharsets;
import java.nio.file.Files;
import java.nio.file.Path;
import java.util.regex.Matcher;
import java.util.regex.Pattern;

/** README.md: its program prints what stands below it, its tables name every call and every test. */
public final class ReadmeTest {
    private static final Due due = new Due();

    public static void main(String[] args) throws Exception {
        String readme = Files.readString(Path.of("README.md"));
        program(readme);
        calls(readme);
        tests(readme);
        due.end();
    }

    private static void ask(String what, boolean holds) {
        due.is(what, holds ? 1 : 0, 1);
    }

    private static String block(String readme, String kind) {
        Matcher m = Pattern.compile("(?s)```" + kind + "\n(.*?)```").matcher(readme);
        return m.find() ? m.group(1) : "";
    }

    /** Compiled and run as the reader would do it, with javac and java. */
    private static void program(String readme) throws Exception {
        Path out = Files.createTempDirectory("readme");
        Path source = out.resolve("Example.java");
        String classes = System.getProperty("java.class.path");
        try {
            Files.writeString(source, block(readme, "java"));
            printedBy("javac", "-cp", classes, "-d", out.toString(), source.toString());
            String printed = printedBy("java", "-cp", out + File.pathSeparator + classes, "Example");
            ask("the program prints\n" + printed, printed.equals(block(readme, "text")) && !printed.isEmpty());
        } finally {
            for (File file : out.toFile().listFiles()) {
                file.delete();
            }
            Files.delete(out);
        }
    }

    private static String printedBy(String... command) throws Exception {
        Process process = new ProcessBuilder(command).redirectError(ProcessBuilder.Redirect.INHERIT).start();
        String printed = new String(process.getInputStream().readAllBytes(), StandardCharsets.UTF_8);
        due.is(command[0] + " on the program ends with", process.waitFor(), 0);
        return printed.replace(System.lineSeparator(), "\n");
    }

    /** Each public call has one row, with as many arguments as it takes. */
    private static void calls(String readme) {
        int rows = 0;
        Matcher row = Pattern.compile("(?m)^\\| (\\d+) \\| `(\\w+)\\(([^)]*)\\)` \\|").matcher(readme);
        while (row.find()) {
            rows++;
            due.is("the number of " + row.group(2), Integer.parseInt(row.group(1)), rows);
            int takes = row.group(3).isEmpty() ? 0 : row.group(3).split(",").length;
            ask(row.group(2) + " takes " + takes, takes == parametersOf(row.group(2)));
        }
        due.is("promises", rows, 28);
    }

    private static int parametersOf(String name) {
        for (Method m : LevelVotes.class.getDeclaredMethods()) {
            if (m.getName().equals(name) && Modifier.isPublic(m.getModifiers())) {
                return m.getParameterCount();
            }
        }
        return name.equals("LevelVotes") ? 0 : -1;
    }

    private static void tests(String readme) throws IOException {
        for (File file : new File("src/test/java").listFiles()) {
            String name = file.getName().replace(".java", "");
            if (name.endsWith("Test")) {
                ask("a row for " + name, readme.contains("\n| `" + name + "` |"));
            }
        }
    }
}
