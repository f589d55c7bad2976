import java.io.IOException;
import java.nio.file.Files;
import java.nio.file.Path;
import java.util.ArrayList;
import java.util.List;

/**
 * What README.md says of running the tests is what .ci/run does: it is run on small projects, made
 * for this, in which all is well or something fails; and the lines for one test alone are run.
 * Arguments: the source's path, the document's path, the project's path.
 */
public final class RunnerTest {
    private static final Check CHECK = new Check();
    private static final String CLASS = "public final class HiredByLonging { }\n";
    private static final String WARNED = "final class Raw { static java.util.List list = null; }\n";

    private static Path root;
    private static Path made;
    private static int status;
    private static String printed;

    public static void main(String[] args) throws Exception {
        root = Path.of(args[2]).toAbsolutePath().normalize();
        made = Files.createTempDirectory("runner");
        try {
            project("well", CLASS, 0, 0);
            run("well");
            allIsWell();
            project("own", CLASS, 1, 0);
            fails("own", "FAILED: OwnTest", "passed: shared Told");
            project("told", CLASS, 0, 1);
            fails("told", "FAILED: shared Told", "passed: OwnTest");
            project("warned", CLASS + WARNED, 0, 0);
            fails("warned", "FAILED: the class compiles without a warning", "passed: shared Told");
            project("broken", CLASS, 0, 0);
            Trees.write(made.resolve("broken/main/tests/BrokenTest.java"), "public final class BrokenTest {\n");
            fails("broken", "FAILED: BrokenTest", "FAILED: the project's tests compile");
            project("none", CLASS, 0, 0);
            Files.delete(made.resolve("none/shared/tests/Told.java"));
            fails("none", "FAILED: there are tests under ../shared/tests", "passed: OwnTest");
            project("alone", CLASS, 0, 0);
            Trees.remove(made.resolve("alone/shared"));
            fails("alone", "../shared is not there", "");
            readme(Files.readAllLines(root.resolve("README.md")));
        } finally {
            Trees.remove(made);
        }
        CHECK.end("RunnerTest");
    }

    /** A project with .ci/run, the class, a test of its own, a help that is no test, a told test. */
    private static void project(String name, String source, int own, int told) throws IOException {
        Path main = made.resolve(name + "/main");
        Trees.write(main.resolve(".ci/run"), Files.readString(root.resolve(".ci/run")));
        Trees.write(main.resolve("src/main/java/HiredByLonging.java"), source);
        Trees.write(main.resolve("tests/OwnTest.java"), test("OwnTest", own));
        Trees.write(main.resolve("tests/Help.java"), test("Help", 1));
        Trees.write(made.resolve(name + "/shared/DOC.md"), "# HiredByLonging\n");
        Trees.write(made.resolve(name + "/shared/tests/Told.java"), test("Told", told));
    }

    private static String test(String name, int status) {
        return "public final class " + name + " {\n    public static void main(String[] args) {\n"
                + "        new HiredByLonging();\n        System.exit(" + status + ");\n    }\n}\n";
    }

    /** From another directory than the project's. */
    private static void run(String name) throws IOException, InterruptedException {
        ask(made, "bash", name + "/main/.ci/run");
    }

    private static void ask(Path where, String... command) throws IOException, InterruptedException {
        Process process = new ProcessBuilder(command).directory(where.toFile()).redirectErrorStream(true).start();
        printed = new String(process.getInputStream().readAllBytes());
        status = process.waitFor();
    }

    private static void prints(String name, String words) {
        CHECK.due(name + " prints '" + words + "', but: " + printed, printed.contains(words) ? 1 : 0, 1);
    }

    private static void allIsWell() {
        CHECK.due("all is well: exit code", status, 0);
        for (String one : List.of("the class compiles without a warning", "OwnTest", "shared Told")) {
            prints("all is well", "passed: " + one + "\n");
        }
        CHECK.due("something fails, though all is well", printed.contains("FAILED") ? 1 : 0, 0);
        CHECK.due("a help is run", printed.contains("Help") ? 1 : 0, 0);
        CHECK.due("the last line: " + printed, printed.endsWith("\n5 passed, 0 failed\n") ? 1 : 0, 1);
    }

    private static void fails(String name, String words, String also) throws IOException, InterruptedException {
        run(name);
        CHECK.due(name + ": exit code", status, 1);
        prints(name, words);
        prints(name, also);
    }

    /** The lines that README.md tells for all tests, and for one alone. */
    private static void readme(List<String> readme) throws IOException, InterruptedException {
        List<String> commands = new ArrayList<>();
        for (String line : readme.subList(readme.indexOf("## How to run its tests"), readme.size())) {
            if (line.startsWith("    ")) {
                commands.add(line.trim());
            }
        }
        CHECK.due("how many lines", commands.size(), 3);
        CHECK.due("all tests: " + commands.get(0), commands.get(0).equals("bash .ci/run") ? 1 : 0, 1);
        CHECK.due(".ci/run can be run", Files.isExecutable(root.resolve(".ci/run")) ? 1 : 0, 1);
        for (String line : commands.subList(1, commands.size())) {
            ask(root, "bash", "-c", line.replace("/tmp/hired", made.resolve("alone/classes").toString()));
            CHECK.due(line + ": exit code, and " + printed, status, 0);
        }
        prints("one test alone", "PromisesTest: ");
    }
}
