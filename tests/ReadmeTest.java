import java.io.ByteArrayOutputStream;
import java.io.IOException;
import java.io.PrintStream;
import java.nio.charset.StandardCharsets;
import java.nio.file.Files;
import java.nio.file.Path;

/** README.md shows the example as it stands, and what it prints. */
public final class ReadmeTest {
    private static final Path README = Path.of("README.md");
    private static final Path EXAMPLE = Path.of("example", "Example.java");

    public static void main(String[] args) throws IOException {
        String readme = Files.readString(README);
        String example = Files.readString(EXAMPLE);
        Check check = new Check("README.md");
        check.due(example, "its program", () -> block(readme, "java"));
        check.due(printed(), "what it says that the program prints", () -> block(readme, "text"));
        check.end();
    }

    /** The lines of the first block of that kind, or nothing if there is none. */
    private static String block(String readme, String kind) {
        String start = "\n```" + kind + "\n";
        int from = readme.indexOf(start);
        int to = readme.indexOf("\n```\n", from + start.length());
        return from < 0 || to < 0 ? "" : readme.substring(from + start.length(), to + 1);
    }

    private static String printed() {
        PrintStream out = System.out;
        ByteArrayOutputStream bytes = new ByteArrayOutputStream();
        System.setOut(new PrintStream(bytes, true, StandardCharsets.UTF_8));
        Example.main(new String[0]);
        System.setOut(out);
        return bytes.toString(StandardCharsets.UTF_8).replace(System.lineSeparator(), "\n");
    }
}
