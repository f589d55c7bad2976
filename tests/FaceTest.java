import java.io.IOException;
import java.lang.reflect.Constructor;
import java.lang.reflect.Field;
import java.lang.reflect.Method;
import java.lang.reflect.Modifier;
import java.nio.file.Files;
import java.nio.file.Path;
import java.util.ArrayList;
import java.util.List;
import java.util.Set;
import java.util.TreeSet;
import java.util.regex.Matcher;
import java.util.regex.Pattern;

/**
 * The class's face is the document's, and the source keeps to those rules of LANGUAGE.md that
 * show in its signs. Arguments: the source's path, the document's path.
 */
public final class FaceTest {
    private static final Check CHECK = new Check();
    private static final int MOST_LINES = 60;

    public static void main(String[] args) throws IOException {
        face(Files.readString(Path.of(args[1])));
        signs(Files.readString(Path.of(args[0])));
        lengths(Files.readAllLines(Path.of(args[0])));
        CHECK.end("FaceTest");
    }

    private static void face(String document) {
        String text = document.substring(document.indexOf("```java"));
        text = text.substring(0, text.indexOf("\n}"));
        Matcher m = Pattern.compile("    public (\\w+) (\\w+)\\(([^)]*)\\)([^;]*);").matcher(text);
        Set<String> due = new TreeSet<>();
        while (m.find()) {
            String types = m.group(3).replaceAll(" \\w+(, |$)", "$1");
            String thrown = m.group(4).replace(" throws ", "");
            due.add(m.group(1) + " " + m.group(2) + "(" + types + ") " + thrown);
        }
        Set<String> names = new TreeSet<>();
        Set<String> found = new TreeSet<>();
        for (Method method : HiredByLonging.class.getDeclaredMethods()) {
            if (Modifier.isPublic(method.getModifiers())) {
                found.add(line(method));
                names.add(method.getName());
            }
        }
        CHECK.due("how many methods the document has", due.size(), 41);
        CHECK.due("the face " + found + " is " + due, found.equals(due) ? 1 : 0, 1);
        hidden(names);
    }

    private static String line(Method method) {
        List<String> types = new ArrayList<>();
        for (Class<?> type : method.getParameterTypes()) {
            types.add(type.getName());
        }
        List<String> thrown = new ArrayList<>();
        for (Class<?> type : method.getExceptionTypes()) {
            thrown.add(type.getSimpleName());
        }
        return method.getReturnType() + " " + method.getName() + "(" + String.join(", ", types) + ") "
                + String.join(", ", thrown);
    }

    /** What is not of the face is private, bears none of its names, and no static state is left. */
    private static void hidden(Set<String> names) {
        Class<?> whole = HiredByLonging.class;
        CHECK.due("public and final", whole.getModifiers(), Modifier.PUBLIC | Modifier.FINAL);
        for (Constructor<?> made : whole.getDeclaredConstructors()) {
            CHECK.due("the constructor", made.getParameterCount(), 0);
        }
        for (Method method : whole.getDeclaredMethods()) {
            boolean fine = Modifier.isPublic(method.getModifiers())
                    || Modifier.isPrivate(method.getModifiers()) && !names.contains(method.getName());
            CHECK.due("private, by a name of its own: " + method.getName(), fine ? 1 : 0, 1);
            CHECK.due("parameters of " + method.getName(), Math.max(7, method.getParameterCount()), 7);
        }
        for (Field field : whole.getDeclaredFields()) {
            int how = field.getModifiers();
            CHECK.due("private: " + field.getName(), Modifier.isPrivate(how) ? 1 : 0, 1);
            CHECK.due("no static state: " + field.getName(),
                    !Modifier.isStatic(how) || Modifier.isFinal(how) && field.getType().isPrimitive() ? 1 : 0, 1);
        }
        Class<?>[] inside = whole.getDeclaredClasses();
        CHECK.due("some twelve classes", Math.max(11, inside.length), 11);
        for (Class<?> one : inside) {
            for (Method method : one.getDeclaredMethods()) {
                boolean own = !names.contains(method.getName()) || method.isSynthetic();
                CHECK.due("a name of its own: " + method.getName(), own ? 1 : 0, 1);
            }
        }
    }

    private static void signs(String source) {
        String[] never = {
            "^import ", "^package ", "->", "::", "@\\w", "\\bfinally\\b", "\\bsynchronized\\b",
            "\\bassert\\b", "\\bvar\\b", "\\bdouble\\b", "\\bfloat\\b", "Exact\\(", "\\bSystem\\.(?!arraycopy)",
            "catch \\((RuntimeException|Exception|Throwable|Error|ArrayIndex|IndexOut|NullPointer"
                    + "|Arithmetic|ClassCast|NegativeArray|ArrayStore)",
            "\\bjava\\.", "[^\\x00-\\x7f]", "\t", " +$"
        };
        for (String sign : never) {
            Matcher m = Pattern.compile(sign, Pattern.MULTILINE).matcher(source);
            CHECK.due("the source has none of " + sign, m.find() ? 1 : 0, 0);
        }
        Matcher made = Pattern.compile("\\bnew (\\w+)").matcher(source);
        while (made.find()) {
            boolean thrown = source.startsWith("throw ", made.start() - 6);
            boolean ended = made.group(1).endsWith("Exception");
            CHECK.due("made: " + made.group(), thrown == ended ? 1 : 0, 1);
        }
    }

    /** Methods stay short: from a line that begins one to the line that ends it. */
    private static void lengths(List<String> lines) {
        Pattern begin = Pattern.compile("^( {4}| {8})(public|private|static|[a-z]\\w*) .*\\).*\\{$");
        for (int i = 0; i < lines.size(); i++) {
            Matcher m = begin.matcher(lines.get(i));
            if (!m.matches()) {
                continue;
            }
            int end = i;
            while (!lines.get(end).equals(m.group(1) + "}")) {
                end++;
            }
            CHECK.due("lines of " + lines.get(i).trim(), Math.max(MOST_LINES, end - i + 1), MOST_LINES);
        }
    }
}
