import java.io.IOException;
import java.nio.file.Files;
import java.nio.file.Path;
import java.util.Arrays;
import java.util.List;
import java.util.TreeSet;
import java.util.regex.Matcher;
import java.util.regex.Pattern;

/**
 * The tests of boundaries name a promise and quote a sentence with each answer: every promise is named, every quote
 * stands in the document, and no sentence of the document, from its first line on, is left unquoted. (FaceTest has the
 * face.)
 */
public final class SentencesTest {
    private static final Path DOCUMENT = Path.of("../shared/DOC.md");
    private static final Path TESTS = Path.of("src/test/java");
    private static final String[] QUOTING = {"BoundsOfTablesTest", "BoundsOfCliffordsTest", "BoundsOfWordsTest",
        "BoundsOfTextsTest", "BoundsOfChangesTest", "RefusalsTest", "EdgesTest", "OverviewTest"};
    private static final int PROMISES = 31;
    private static final Pattern QUOTE = Pattern.compile(
        "(?:about|isBad|isRefused|isRefusedBehind)\\((\\d+),\\s*((?:\"[^\"]*\"\\s*\\+?\\s*)+)");
    private static final Pattern LITERAL = Pattern.compile("\"([^\"]*)\"");
    /** What stands between sentences, and says no more than which word they are about. */
    private static final List<String> BETWEEN = List.of("# RootGates ## What it is", ". ========", "## Terms",
        ". ```text", ". ``` ======== 2",
        "```text CHEAPEST word of a CLIFFORD:", ". NORMAL form of a TABLE:", ". SHORTER is made a WORD by RULES:",
        "FITS:", ". PARTS of two WORDS:", ". ``` ======== 3", "```text CHANGES:", "``` ANSWERS that are refusals (",
        "======== SO THAT NOTHING IS READ TWO WAYS. \"And\" between two numbers, \"together\": their sum.");
    private static final Due due = new Due();

    public static void main(String[] args) throws IOException {
        TreeSet<Integer> promises = new TreeSet<>();
        TreeSet<String> quotes = new TreeSet<>();
        for (String test : QUOTING) {
            collect(Files.readString(TESTS.resolve(test + ".java")), promises, quotes);
        }
        for (int promise = 1; promise <= PROMISES; promise++) {
            due.isTrue("promise " + promise + " is named", promises.contains(promise));
        }
        if (Files.isReadable(DOCUMENT)) {
            compare(Files.readString(DOCUMENT).replaceAll("\\s+", " "), quotes);
        } else {
            System.out.println("no " + DOCUMENT + " here: quotes are not compared with it");
        }
        due.end();
    }

    private static void compare(String document, TreeSet<String> quotes) {
        for (String quote : quotes) {
            due.isTrue("stands in the document: " + quote, document.contains(quote));
        }
        int face = document.indexOf("## The public face");
        int terms = document.indexOf("## Terms");
        int end = document.indexOf("## Not promised");
        due.isTrue("the document has its parts", face > 0 && terms > face && end > terms);
        if (face > 0 && terms > face && end > terms) {
            allIsQuoted(document.substring(0, face), quotes);
            allIsQuoted(document.substring(terms, end), quotes);
        }
    }

    private static void collect(String source, TreeSet<Integer> promises, TreeSet<String> quotes) {
        Matcher quote = QUOTE.matcher(source);
        while (quote.find()) {
            promises.add(Integer.parseInt(quote.group(1)));
            StringBuilder text = new StringBuilder();
            Matcher literal = LITERAL.matcher(quote.group(2));
            while (literal.find()) {
                text.append(literal.group(1));
            }
            quotes.add(text.toString());
        }
    }

    private static void allIsQuoted(String text, TreeSet<String> quotes) {
        char[] left = text.toCharArray();
        for (String quote : quotes) {
            for (int at = text.indexOf(quote); at >= 0; at = text.indexOf(quote, at + 1)) {
                Arrays.fill(left, at, at + quote.length(), '\n');
            }
        }
        for (String piece : new String(left).split("\n+")) {
            String words = piece.strip();
            boolean isHeading = words.matches("## Promise \\d+: [^`]*`[^`]*`:");
            due.isTrue("is quoted: " + words, words.length() < 4 || isHeading || BETWEEN.contains(words));
        }
    }
}
