import java.io.IOException;
import java.nio.file.Files;
import java.nio.file.Path;
import java.util.List;
import java.util.regex.Matcher;
import java.util.regex.Pattern;

/** SENTENCES.md goes through the whole document, and each piece of it names tests that are there. */
public final class SentencesTest {
    private static final Path DOCUMENT = Path.of("../shared/DOC.md");
    private static final Path SENTENCES = Path.of("src/test/SENTENCES.md");
    private static final Path TESTS = Path.of("src/test/java");
    private static final Pattern NAMED = Pattern.compile("`(\\w+Test)\\.(\\w+)`");
    private static final String PIECE = "> ";

    public static void main(String[] args) throws IOException {
        if (Files.exists(DOCUMENT)) {
            whole();
        } else {
            System.out.println("the document is not at " + DOCUMENT + ": not held against it");
        }
        named();
        Desk.end();
    }

    /** The words of the document, without headings and the fences of code, with a blank between. */
    private static String document() throws IOException {
        StringBuilder all = new StringBuilder();
        for (String line : Files.readAllLines(DOCUMENT)) {
            if (!line.startsWith("#") && !line.startsWith("```")) {
                all.append(' ').append(line);
            }
        }
        return all.toString().replaceAll("\\s+", " ").trim();
    }

    private static void whole() throws IOException {
        String rest = document();
        for (String line : Files.readAllLines(SENTENCES)) {
            if (line.startsWith(PIECE)) {
                String piece = line.substring(PIECE.length()).trim();
                boolean next = rest.startsWith(piece);
                Desk.due("whether this stands next in the document: " + piece, next ? 1 : 0, 1);
                rest = next ? rest.substring(piece.length()).trim() : rest;
            }
        }
        Desk.due("what no piece tells", rest, "");
    }

    private static void named() throws IOException {
        List<String> lines = Files.readAllLines(SENTENCES);
        int tests = 1;
        for (String line : lines) {
            if (line.startsWith(PIECE)) {
                Desk.due("whether there is a test ahead of: " + line, tests > 0 ? 1 : 0, 1);
                tests = 0;
            } else {
                tests += namedIn(line);
            }
        }
        Desk.due("whether there is a test of the last piece", tests > 0 ? 1 : 0, 1);
    }

    private static int namedIn(String line) throws IOException {
        int tests = 0;
        for (Matcher matcher = NAMED.matcher(line); matcher.find(); tests++) {
            Path file = TESTS.resolve(matcher.group(1) + ".java");
            boolean there = Files.exists(file) && Files.readString(file).contains(" void " + matcher.group(2) + "(");
            Desk.due("whether there is " + matcher.group(), there ? 1 : 0, 1);
        }
        return tests;
    }
}
