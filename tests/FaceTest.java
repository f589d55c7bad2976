import java.io.IOException;
import java.lang.reflect.Constructor;
import java.lang.reflect.Field;
import java.lang.reflect.Method;
import java.lang.reflect.Modifier;
import java.nio.file.Files;
import java.nio.file.Path;
import java.util.ArrayList;
import java.util.List;
import java.util.Set;
import java.util.TreeSet;
import java.util.regex.Matcher;
import java.util.regex.Pattern;

/**
 * The class's face is the document's, and the source keeps to those rules of LANGUAGE.md that
 * show in its signs. Arguments: the source's path, the document's path.
 */
public final class FaceTest {
    private static final int MOST_LINES = 60;
    private static final int PROMISES = 42;

    private static Sentences s;

    public static void main(String[] args) throws IOException {
        s = new Sentences(args);
        String document = Sentences.documentOf(args);
        String source = Files.readString(Path.of(args[0]));
        Set<String> names = face(document);
        hidden(names);
        promises(document, source);
        ahead(document, source);
        s.besides("LANGUAGE.md");
        signs(source);
        lengths(Files.readAllLines(Path.of(args[0])));
        s.end("FaceTest", 0, PROMISES);
    }

    private static Set<String> face(String document) {
        String text = document.substring(document.indexOf("```java"));
        text = text.substring(0, text.indexOf(" } ```") + 6);
        s.says(0, "## The public face " + text);
        Matcher m = Pattern.compile(" public (\\w+) (\\w+)\\(([^)]*)\\)([^;]*);").matcher(text);
        Set<String> due = new TreeSet<>();
        while (m.find()) {
            String types = m.group(3).replaceAll(" \\w+(, |$)", "$1");
            String thrown = m.group(4).replace(" throws ", "");
            due.add(m.group(1) + " " + m.group(2) + "(" + types + ") " + thrown);
        }
        Set<String> names = new TreeSet<>();
        Set<String> found = new TreeSet<>();
        for (Method method : HiredByLonging.class.getDeclaredMethods()) {
            if (Modifier.isPublic(method.getModifiers())) {
                found.add(line(method));
                names.add(method.getName());
            }
        }
        s.due("how many methods the document has", due.size(), PROMISES - 1);
        s.due("the face " + found + " is " + due, found.equals(due) ? 1 : 0, 1);
        return names;
    }

    private static String line(Method method) {
        List<String> types = new ArrayList<>();
        for (Class<?> type : method.getParameterTypes()) {
            types.add(type.getName());
        }
        List<String> thrown = new ArrayList<>();
        for (Class<?> type : method.getExceptionTypes()) {
            thrown.add(type.getSimpleName());
        }
        return method.getReturnType() + " " + method.getName() + "(" + String.join(", ", types) + ") "
                + String.join(", ", thrown);
    }

    /** What is not of the face is private, bears none of its names, and no static state is left. */
    private static void hidden(Set<String> names) {
        Class<?> whole = HiredByLonging.class;
        s.due("public and final", whole.getModifiers(), Modifier.PUBLIC | Modifier.FINAL);
        s.due("one constructor", whole.getDeclaredConstructors().length, 1);
        for (Constructor<?> made : whole.getDeclaredConstructors()) {
            s.due("the constructor", made.getParameterCount(), 0);
            s.due("the constructor is public", made.getModifiers(), Modifier.PUBLIC);
        }
        for (Method method : whole.getDeclaredMethods()) {
            boolean fine = Modifier.isPublic(method.getModifiers())
                    || Modifier.isPrivate(method.getModifiers()) && !names.contains(method.getName());
            s.due("private, by a name of its own: " + method.getName(), fine ? 1 : 0, 1);
            s.due("parameters of " + method.getName(), Math.max(7, method.getParameterCount()), 7);
        }
        for (Field field : whole.getDeclaredFields()) {
            int how = field.getModifiers();
            s.due("private: " + field.getName(), Modifier.isPrivate(how) ? 1 : 0, 1);
            s.due("no static state: " + field.getName(),
                    !Modifier.isStatic(how) || Modifier.isFinal(how) && field.getType().isPrimitive() ? 1 : 0, 1);
        }
        Class<?>[] inside = whole.getDeclaredClasses();
        s.due("some twelve classes", Math.max(11, inside.length), 11);
        for (Class<?> one : inside) {
            int how = one.getModifiers();
            boolean shown = Modifier.isPublic(how) || Modifier.isProtected(how) || !Modifier.isStatic(how);
            s.due("static, and not of the face: " + one.getName(), shown ? 1 : 0, 0);
            s.due("some twenty fields of " + one.getName(), Math.max(20, one.getDeclaredFields().length), 20);
            for (Method method : one.getDeclaredMethods()) {
                boolean own = !names.contains(method.getName()) || method.isSynthetic();
                s.due("a name of its own: " + method.getName(), own ? 1 : 0, 1);
            }
        }
    }

    /** Each promise tells a call of the face, in its order, as the source has it. */
    private static void promises(String document, String source) {
        Matcher m = Pattern.compile("## Promise (\\d+): ([\\w ]+) `([^`]+)`:").matcher(document);
        int place = source.indexOf("public final class HiredByLonging {");
        for (int p = 1; p <= PROMISES; p++) {
            boolean found = m.find();
            s.says(p, found ? m.group() : "promise " + p);
            if (!found) {
                s.due("the promise is there", 0, 1);
                return;
            }
            s.due("its number", Integer.parseInt(m.group(1)), p);
            String name = p == 1 ? "HiredByLonging" : m.group(2);
            s.due("its call is told of", m.group(3).matches("(\\w+ )?" + name + "\\(.*") ? 1 : 0, 1);
            int next = source.indexOf("public " + m.group(3) + " {", place);
            s.due("the source has it, behind the one ahead of it", next > place ? 1 : 0, 1);
            place = Math.max(place, next);
        }
        s.due("no promise more", m.find() ? 1 : 0, 0);
    }

    /** What the interface says ahead of its calls stands so in the source. */
    private static void ahead(String document, String source) {
        Matcher m = Pattern.compile("Ahead of the calls ((?:`\\w+`(?:, )?)+) the interface says: (---- [^.]+)\\.")
                .matcher(document);
        int calls = 0;
        while (m.find()) {
            s.says(0, m.group());
            List<String> due = List.of(m.group(1).replace("`", "").split(", "));
            int place = source.indexOf("    // " + m.group(2) + "\n");
            s.due("the source says so", place >= 0 ? 1 : 0, 1);
            String part = source.substring(Math.max(0, place));
            part = part.substring(0, part.indexOf("    // ----", 8));
            Matcher call = Pattern.compile("\n    public \\w+ (\\w+)\\(").matcher(part);
            List<String> found = new ArrayList<>();
            while (call.find()) {
                found.add(call.group(1));
            }
            s.due("ahead of " + found, found.equals(due) ? 1 : 0, 1);
            calls += due.size();
        }
        s.due("calls of all", calls, PROMISES - 1);
    }

    private static void signs(String source) {
        String[] never = {
            "^import ", "^package ", "->", "::", "@\\w", "\\bfinally\\b", "\\bsynchronized\\b",
            "\\bassert\\b", "\\bvar\\b", "\\bdouble\\b", "\\bfloat\\b", "Exact\\(", "\\bSystem\\.(?!arraycopy)",
            "catch \\((RuntimeException|Exception|Throwable|Error|ArrayIndex|IndexOut|NullPointer"
                    + "|Arithmetic|ClassCast|NegativeArray|ArrayStore)",
            "\\bjava\\.", "[^\\x00-\\x7f]", "\t", " +$"
        };
        for (String sign : never) {
            Matcher m = Pattern.compile(sign, Pattern.MULTILINE).matcher(source);
            s.due("the source has none of " + sign, m.find() ? 1 : 0, 0);
        }
        Matcher made = Pattern.compile("\\bnew (\\w+)").matcher(source);
        while (made.find()) {
            boolean thrown = source.startsWith("throw ", made.start() - 6);
            boolean ended = made.group(1).endsWith("Exception");
            s.due("made: " + made.group(), thrown == ended ? 1 : 0, 1);
        }
    }

    /** Methods stay short: from a line that begins one to the line that ends it. */
    private static void lengths(List<String> lines) {
        Pattern begin = Pattern.compile("^( {4}| {8})(public|private|static|[a-z]\\w*) .*\\).*\\{$");
        for (int i = 0; i < lines.size(); i++) {
            Matcher m = begin.matcher(lines.get(i));
            if (!m.matches()) {
                continue;
            }
            int end = i;
            while (!lines.get(end).equals(m.group(1) + "}")) {
                end++;
            }
            s.due("lines of " + lines.get(i).trim(), Math.max(MOST_LINES, end - i + 1), MOST_LINES);
        }
    }
}
