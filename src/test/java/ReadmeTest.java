import java.io.IOException;
import java.nio.file.DirectoryStream;
import java.nio.file.Files;
import java.nio.file.Path;
import java.util.Arrays;
import java.util.TreeSet;
import java.util.regex.Matcher;
import java.util.regex.Pattern;

/** README.md: each answer written there is the one of the class, every call of the face is shown, every test listed. */
public final class ReadmeTest {
    private static final Path README = Path.of("README.md");
    private static final Path TESTS = Path.of("src/test/java");
    private static final Pattern EXAMPLE = Pattern.compile("(?s)```java\n(.*?)```");
    private static final Pattern ROW = Pattern.compile("g\\.(\\w+)\\(([^;]*)\\);\\s+// (-?\\d+)( .*)?");
    private static final Due due = new Due();

    public static void main(String[] args) throws IOException {
        String readme = Files.readString(README);
        Matcher example = EXAMPLE.matcher(readme);
        due.isTrue("there is an example", example.find());
        run(example.group(1));
        due.isTrue("it says how to run the tests", readme.contains("\n    .ci/run\n"));
        try (DirectoryStream<Path> files = Files.newDirectoryStream(TESTS, "*Test.java")) {
            for (Path file : files) {
                String name = file.getFileName().toString().replace(".java", "");
                due.isTrue("it lists " + name, readme.contains("\n| " + name + " | "));
            }
        }
        due.end();
    }

    private static void run(String example) {
        RootGates g = null;
        TreeSet<String> left = new TreeSet<>(Arrays.asList(Calls.NAMES));
        for (String line : example.split("\n")) {
            Matcher row = ROW.matcher(line);
            if (line.equals("RootGates g = new RootGates();")) {
                g = new RootGates();
            } else if (row.matches()) {
                due.is(line, Calls.answer(g, row.group(1), numbersOf(row.group(2))), Long.parseLong(row.group(3)));
                left.remove(row.group(1));
            } else {
                due.isTrue("a row with its answer: " + line, line.isEmpty());
            }
        }
        due.isTrue("no call is left out: " + left, left.isEmpty());
    }

    /** Whole numbers, or letters as bytes. */
    private static int[] numbersOf(String text) {
        if (text.isEmpty()) {
            return new int[0];
        }
        String[] words = text.split(", ");
        int[] numbers = new int[words.length];
        for (int i = 0; i < words.length; i++) {
            numbers[i] = words[i].startsWith("'") ? words[i].charAt(1) : Integer.parseInt(words[i]);
        }
        return numbers;
    }
}
