import java.io.IOException;
import java.lang.reflect.Constructor;
import java.lang.reflect.Field;
import java.lang.reflect.Method;
import java.lang.reflect.Modifier;
import java.nio.file.Files;
import java.nio.file.Path;
import java.util.ArrayList;
import java.util.Arrays;
import java.util.List;
import java.util.TreeSet;
import java.util.regex.Matcher;
import java.util.regex.Pattern;

/** The public face of the document, and the rules of the language that can be told from the class and its text. */
public final class FaceTest {
    private static final String DUE = "at(int, int) count(int) feed(int, int, int, int, int) finding(int, int) findings() "
            + "line(int, int) name(int, int) node(int, int) place() read(int) select(int, int) set(int, int) "
            + "string(int, int) told(int)";
    private static final Path TEXT = Path.of("src/main/java/TreePress.java");
    private static final List<String> IMPORTS = List.of("java.util.Arrays", "java.util.ArrayList", "java.util.List",
            "java.util.Iterator");

    public static void main(String[] args) throws IOException {
        face();
        for (Class<?> part : parts()) {
            fields(part);
            methods(part);
        }
        words();
        Desk.end();
    }

    private static void holds(String what, boolean truth) {
        Desk.due("whether " + what, truth ? 1 : 0, 1);
    }

    private static List<Class<?>> parts() {
        List<Class<?>> all = new ArrayList<>(Arrays.asList(TreePress.class.getDeclaredClasses()));
        all.add(TreePress.class);
        return all;
    }

    private static String signature(Method method) {
        StringBuilder all = new StringBuilder(method.getName()).append('(');
        for (Class<?> parameter : method.getParameterTypes()) {
            all.append(all.charAt(all.length() - 1) == '(' ? "" : ", ").append(parameter.getName());
        }
        return all.append(')').toString();
    }

    /** Rule 1: the face, and no other member that can be seen. */
    private static void face() {
        Class<?> press = TreePress.class;
        Desk.due("the class", Modifier.toString(press.getModifiers()), "public final");
        Desk.due("its package", press.getPackageName(), "");
        Constructor<?>[] constructors = press.getDeclaredConstructors();
        Desk.due("constructors", constructors.length, 1);
        Desk.due("the constructor", constructors[0].toString(), "public TreePress()");
        TreeSet<String> seen = new TreeSet<>();
        for (Method method : press.getDeclaredMethods()) {
            if (!Modifier.isPrivate(method.getModifiers())) {
                Desk.due(method.getName(), Modifier.toString(method.getModifiers()) + " " + method.getReturnType(),
                        "public int");
                Desk.due("what it throws", method.getExceptionTypes().length, 0);
                seen.add(signature(method));
            }
        }
        Desk.due("the methods", String.join(" ", seen), DUE);
        for (Field field : press.getDeclaredFields()) {
            holds(field.getName() + " is private", Modifier.isPrivate(field.getModifiers()));
        }
        for (Class<?> part : press.getDeclaredClasses()) {
            int modifiers = part.getModifiers();
            holds(part.getName() + " is static", Modifier.isStatic(modifiers));
            holds(part.getName() + " is not seen", !Modifier.isPublic(modifiers) && !Modifier.isProtected(modifiers));
        }
    }

    /** Rules 5 and 11: static fields are constants; some twelve classes, some twenty fields each. */
    private static void fields(Class<?> part) {
        int own = 0;
        for (Field field : part.getDeclaredFields()) {
            boolean constant = Modifier.isStatic(field.getModifiers());
            holds(field + " is final", !constant || Modifier.isFinal(field.getModifiers()));
            own += constant ? 0 : 1;
        }
        holds(part.getName() + " has some twenty fields at most", own <= 20);
        holds("there are some twelve classes at most", parts().size() <= 12);
    }

    /** Rules 1 and 11: no other method has a name of the face's; seven parameters at most. */
    private static void methods(Class<?> part) {
        for (Method method : part.getDeclaredMethods()) {
            boolean ofFace = part == TreePress.class && Modifier.isPublic(method.getModifiers());
            boolean named = DUE.startsWith(method.getName() + "(") || DUE.contains(" " + method.getName() + "(");
            holds(method + " may have its name", ofFace || !named);
            holds(method + " takes seven parameters at most", method.getParameterCount() <= 7);
        }
    }

    /** Rules 4, 6 and 10: what may not stand in the text, comments and quotes aside. */
    private static void words() throws IOException {
        String text = Files.readString(TEXT);
        holds("its characters are of 0 to 255 alone", text.chars().allMatch(c -> c <= 255));
        String bare = text.replaceAll("(?s)/\\*.*?\\*/", "").replaceAll("//[^\n]*", "")
                .replaceAll("\"(\\\\.|[^\"\\\\])*\"|'(\\\\.|[^'\\\\])'", "0");
        Matcher none = Pattern.compile("\\b(throw|throws|try|catch|finally|synchronized|assert|var|volatile|transient|native"
                + "|System\\.(?!arraycopy\\b)\\w+|Thread|Random|Object|equals|hashCode|toString|\\w+Exact)\\b|->|::|@\\w+")
                .matcher(bare);
        Desk.due("words that may not stand", none.find() ? none.group() : "", "");
        Matcher imported = Pattern.compile("import ([^;]*);").matcher(bare);
        while (imported.find()) {
            holds(imported.group(1) + " may be imported", IMPORTS.contains(imported.group(1)));
        }
        methodLengths(bare);
    }

    /** Rule 11: methods stay short. */
    private static void methodLengths(String bare) {
        Pattern head = Pattern.compile("( +)[\\w\\[\\] ]+\\([^;={}]*\\) \\{");
        String[] lines = bare.split("\n");
        for (int i = 0; i < lines.length; i++) {
            Matcher matcher = head.matcher(lines[i]);
            if (matcher.matches() && matcher.group(1).length() <= 8) {
                int size = 0;
                while (i + size < lines.length && !lines[i + size].equals(matcher.group(1) + "}")) {
                    size++;
                }
                holds("a method is short: " + lines[i].trim(), size < 60);
            }
        }
    }
}
