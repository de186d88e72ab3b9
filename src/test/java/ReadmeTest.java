import java.io.ByteArrayOutputStream;
import java.io.IOException;
import java.io.PrintStream;
import java.nio.file.Files;
import java.nio.file.Path;

/** That README.md tells the example as it is, and what it prints. Runs in the project's own directory. */
public final class ReadmeTest extends Checks {
    public static void main(String[] args) throws IOException {
        String readme = Files.readString(Path.of("README.md"));
        String program = Files.readString(Path.of("src/test/java/Example.java"));
        due(0, "README.md has the example", readme.contains("```java\n" + program + "```"), true);
        due(0, "README.md has what it prints", readme.contains("```text\n" + printed() + "```"), true);
        end();
    }

    private static String printed() {
        PrintStream before = System.out;
        ByteArrayOutputStream bytes = new ByteArrayOutputStream();
        System.setOut(new PrintStream(bytes, true));
        try {
            Example.main(new String[0]);
        } finally {
            System.setOut(before);
        }
        return bytes.toString().replace("\r", "");
    }
}
