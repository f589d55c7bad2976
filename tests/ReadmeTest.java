import java.io.IOException;
import java.io.StringWriter;
import java.lang.reflect.InvocationTargetException;
import java.net.URL;
import java.net.URLClassLoader;
import java.nio.file.Files;
import java.nio.file.Path;
import java.util.ArrayList;
import java.util.List;
import java.util.Set;
import java.util.TreeSet;
import java.util.regex.Matcher;
import java.util.regex.Pattern;
import javax.tools.JavaCompiler;
import javax.tools.StandardJavaFileManager;
import javax.tools.ToolProvider;

/**
 * The Java lines of README.md are compiled as they stand there, one block behind the other, and each
 * call answers what stands behind it; no call is left out; the tests that it names are those that
 * there are. Arguments: the source's path, the document's path, the project's path.
 */
public final class ReadmeTest {
    /** A call, and behind it what it answers, or throws. */
    private static final Pattern SHOWN =
            Pattern.compile("(\\w+\\.\\w+\\(.*\\)); +// (throws )?(-?\\w+)(: .*)?");
    private static final int MOST_CALLS = 512;
    private static final Check CHECK = new Check();

    public static void main(String[] args) throws Exception {
        Path root = Path.of(args[2]);
        List<String> readme = Files.readAllLines(root.resolve("README.md"));
        List<String> lines = blocks(readme);
        answers(lines);
        allCalls(String.join("\n", lines));
        tests(String.join("\n", readme), root);
        CHECK.end("ReadmeTest");
    }

    private static List<String> blocks(List<String> readme) {
        List<String> lines = new ArrayList<>();
        boolean inside = false;
        for (String line : readme) {
            if (line.startsWith("```")) {
                inside = line.equals("```java");
            } else if (inside) {
                lines.add(line);
            }
        }
        return lines;
    }

    private static void answers(List<String> lines) throws Exception {
        StringWriter source = new StringWriter();
        source.write("public final class Shown {\n"
                + "    public static void run(java.util.List<Object[]> told) {\n");
        int shown = 0;
        for (String line : lines) {
            Matcher m = SHOWN.matcher(line);
            if (m.matches()) {
                shown++;
                source.write(asked(m.group(1), m.group(2) != null, m.group(3)));
            } else {
                CHECK.due("a call with no answer: " + line, line.contains("//") ? 1 : 0, 0);
                source.write(line + "\n");
            }
        }
        source.write("    }\n}\n");
        List<Object[]> told = run(source.toString());
        CHECK.due("the calls that were asked", told.size(), shown);
        for (Object[] one : told) {
            CHECK.due("README: " + one[0] + " answers " + one[1] + ", not " + one[2],
                    one[1].equals(one[2]) ? 1 : 0, 1);
        }
    }

    /** Java that asks a call and tells the call, what README.md says, and what it answered. */
    private static String asked(String call, boolean thrown, String answer) {
        String told = "told.add(new Object[] {\"" + call.replace("\"", "\\\"") + "\", \"" + answer + "\", ";
        return "try {\n" + told + "Long.toString(" + call + ")});\n"
                + "} catch (RuntimeException e) {\n"
                + told + (thrown ? "" : "\"throws \" + ") + "e.getClass().getSimpleName()});\n}\n";
    }

    private static List<Object[]> run(String source) throws Exception {
        Path made = Files.createTempDirectory("readme");
        List<Object[]> told = new ArrayList<>();
        try {
            Path file = made.resolve("Shown.java");
            Files.writeString(file, source);
            JavaCompiler compiler = ToolProvider.getSystemJavaCompiler();
            StringWriter said = new StringWriter();
            boolean compiled;
            try (StandardJavaFileManager files = compiler.getStandardFileManager(null, null, null)) {
                List<String> options = List.of("-cp", System.getProperty("java.class.path"), "-d", made.toString());
                compiled = compiler.getTask(said, files, null, options, null, files.getJavaFileObjects(file)).call();
            }
            CHECK.due("README.md's lines compile " + said, compiled ? 1 : 0, 1);
            if (compiled) {
                call(made, told);
            }
        } finally {
            Trees.remove(made);
        }
        return told;
    }

    private static void call(Path made, List<Object[]> told) throws Exception {
        URL[] places = {made.toUri().toURL()};
        try (URLClassLoader loader = new URLClassLoader(places, ReadmeTest.class.getClassLoader())) {
            loader.loadClass("Shown").getMethod("run", List.class).invoke(null, told);
        } catch (InvocationTargetException e) {
            CHECK.due("README.md's lines throw " + e.getCause(), 1, 0);
        }
    }

    /** Each call of the face is shown, and no object is asked more often than it serves. */
    private static void allCalls(String lines) {
        for (String call : ModelFace.CALLS) {
            CHECK.due("README.md shows " + call, lines.matches("(?s).*\\b[xy]\\." + call + "\\(.*") ? 1 : 0, 1);
        }
        int calls = lines.split("\\b[xy]\\.").length;
        CHECK.due("calls of all", Math.max(MOST_CALLS, calls), MOST_CALLS);
    }

    /** The tests that are named at the heads of the list's lines, and behind full stops there. */
    private static void tests(String readme, Path root) throws IOException {
        Set<String> named = new TreeSet<>();
        Matcher m = Pattern.compile("`(\\w+Test)`").matcher(readme.substring(readme.indexOf("\n- `PromisesTest`")));
        while (m.find()) {
            named.add(m.group(1) + ".java");
        }
        Set<String> there = new TreeSet<>();
        try (var files = Files.newDirectoryStream(root.resolve("tests"), "*Test.java")) {
            files.forEach(file -> there.add(file.getFileName().toString()));
        }
        CHECK.due("the tests that README.md names " + named + " are " + there, named.equals(there) ? 1 : 0, 1);
    }
}
