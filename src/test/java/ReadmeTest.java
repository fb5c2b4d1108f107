import java.io.ByteArrayOutputStream;
import java.io.File;
import java.io.IOException;
import java.io.PrintStream;
import java.nio.charset.StandardCharsets;
import java.nio.file.Files;
import java.nio.file.Path;
import java.util.Set;
import java.util.TreeSet;
import java.util.regex.Matcher;
import java.util.regex.Pattern;

/** README.md: its example is the one that is run, it prints what stands there, its tests are those there are. */
public final class ReadmeTest {
    private static final Path TESTS = Path.of("src/test/java");

    private ReadmeTest() {
    }

    public static void main(String[] args) throws IOException {
        String readme = Files.readString(Path.of("README.md"), StandardCharsets.UTF_8);
        Checks.due("the example", fenced(readme, "java"), example());
        Checks.due("what it prints", fenced(readme, "text"), printed());
        Checks.due("the tests", named(readme).toString(), there().toString());
        Checks.due("the command", fenced(readme, "sh"), ".ci/run\n");
        room();
        Checks.close("ReadmeTest");
    }

    /** The first block of a language. */
    private static String fenced(String readme, String language) {
        Matcher m = Pattern.compile("(?s)```" + language + "\n(.*?)```").matcher(readme);
        return m.find() ? m.group(1) : "no block of " + language;
    }

    private static String example() throws IOException {
        String all = Files.readString(TESTS.resolve("Example.java"), StandardCharsets.UTF_8);
        String from = "// ---- from here ----\n";
        String part = all.substring(all.indexOf(from) + from.length(), all.indexOf("    // ---- to here ----"));
        return part.replaceAll("(?m)^ {4}", "");
    }

    private static String printed() {
        PrintStream screen = System.out;
        ByteArrayOutputStream bytes = new ByteArrayOutputStream();
        System.setOut(new PrintStream(bytes, true, StandardCharsets.UTF_8));
        Example.main(new String[0]);
        System.setOut(screen);
        return bytes.toString(StandardCharsets.UTF_8).replace("\r\n", "\n");
    }

    private static Set<String> named(String readme) {
        Set<String> names = new TreeSet<>();
        Matcher m = Pattern.compile("(?m)^\\| `(\\w+Test)` \\|").matcher(readme);
        while (m.find()) {
            names.add(m.group(1));
        }
        return names;
    }

    private static Set<String> there() {
        Set<String> names = new TreeSet<>();
        String[] files = TESTS.toFile().list();
        for (String file : files == null ? new String[0] : files) {
            if (file.endsWith("Test.java")) {
                names.add(new File(file).getName().replace(".java", ""));
            }
        }
        return names;
    }

    /** The example's write() where THE TAPE is just full, and where it has no room. */
    private static void room() {
        TermDraw x = new TermDraw();
        Checks.due("595 bytes", Example.write(x, "a".repeat(595)), true);
        Checks.due("THE TAPE", x.look(10), 595);
        Checks.due("one byte more", Example.write(x, "b"), false);
        Checks.due("THE TAPE as before", x.look(10), 595);
        x.end(0);
        Checks.due("601 bytes", Example.write(x, "a".repeat(601)), false);
        Checks.due("THE TAPE as before", x.look(10), 0);
        Checks.due("a WORD", Example.write(x, "\u00e9"), true);
        Checks.due("its FAULT", x.doc(), TermDraw.NONE);
        Checks.due("nothing on THE SLATE", Example.read(x), "");
    }
}
