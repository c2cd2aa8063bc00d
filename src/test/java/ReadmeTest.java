import java.io.IOException;
import java.lang.reflect.Method;
import java.lang.reflect.Modifier;
import java.net.URL;
import java.net.URLClassLoader;
import java.nio.file.Files;
import java.nio.file.Path;
import java.util.ArrayList;
import java.util.List;
import java.util.regex.Matcher;
import java.util.regex.Pattern;
import javax.tools.ToolProvider;

/** What README.md shows of the class's use: it is compiled as it stands there, and answers as README.md says. */
public final class ReadmeTest {
    private static final String CODE = "```java";
    private static final String CODE_END = "```";
    // A call on the press, up to the end of its statement, and the number that is written behind it.
    private static final Pattern ANSWERED = Pattern.compile("(press\\..*);\\s+// (-?\\d+)\\b.*");

    public static void main(String[] args) throws Exception {
        List<List<String>> blocks = blocks(Files.readAllLines(Path.of("README.md")));
        Desk.due("blocks of code in README.md", blocks.size(), 2);
        everyCallIsShown(String.join("\n", blocks.get(1)));
        run(source(blocks.get(0), blocks.get(1)));
        Desk.end();
    }

    private static List<List<String>> blocks(List<String> lines) {
        List<List<String>> all = new ArrayList<>();
        List<String> block = null;
        for (String line : lines) {
            if (line.equals(CODE)) {
                block = new ArrayList<>();
                all.add(block);
            } else if (line.equals(CODE_END)) {
                block = null;
            } else if (block != null) {
                block.add(line);
            }
        }
        return all;
    }

    /** Each call of the face stands in README.md; feed() in the functions that it shows. */
    private static void everyCallIsShown(String code) {
        for (Method method : TreePress.class.getDeclaredMethods()) {
            boolean hidden = !Modifier.isPublic(method.getModifiers()) || method.getName().equals("feed");
            Desk.due("whether README.md shows " + method.getName(),
                    hidden || code.contains("press." + method.getName() + "(") ? 1 : 0, 1);
        }
    }

    /** The functions and statements of README.md as a class, each answer told to answered(). */
    private static String source(List<String> functions, List<String> statements) {
        StringBuilder all = new StringBuilder("public final class ReadmeExample {\n");
        for (String line : functions) {
            all.append(line).append('\n');
        }
        all.append("public static void run() {\n");
        int answers = 0;
        for (String line : statements) {
            Matcher matcher = ANSWERED.matcher(line);
            boolean answered = matcher.matches();
            Desk.due("whether an answer is written behind " + line, !line.startsWith("press.") || answered ? 1 : 0, 1);
            answers += answered ? 1 : 0;
            all.append(answered ? checked(matcher.group(1), matcher.group(2)) : line).append('\n');
        }
        Desk.due("whether README.md shows answers", answers > 0 ? 1 : 0, 1);
        return all.append("}\n}\n").toString();
    }

    private static String checked(String call, String due) {
        String quoted = call.replace("\\", "\\\\").replace("\"", "\\\"");
        return "ReadmeTest.answered(\"" + quoted + "\", " + call + ", " + due + ");";
    }

    /** Called by what was made of README.md. */
    public static void answered(String call, int got, int due) {
        Desk.due(call, got, due);
    }

    private static void run(String source) throws Exception {
        Path directory = Files.createTempDirectory("readme");
        try {
            Path file = Files.writeString(directory.resolve("ReadmeExample.java"), source);
            int failed = ToolProvider.getSystemJavaCompiler().run(null, null, null, "-d", directory.toString(),
                    "-cp", System.getProperty("java.class.path"), file.toString());
            Desk.due("compiling what README.md shows", failed, 0);
            if (failed == 0) {
                URL[] places = {directory.toUri().toURL()};
                try (URLClassLoader loader = new URLClassLoader(places)) {
                    loader.loadClass("ReadmeExample").getMethod("run").invoke(null);
                }
            }
        } finally {
            clear(directory);
        }
    }

    private static void clear(Path directory) throws IOException {
        try (var files = Files.list(directory)) {
            for (Path file : files.toList()) {
                Files.delete(file);
            }
        }
        Files.delete(directory);
    }
}
