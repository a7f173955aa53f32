import java.io.IOException;
import java.nio.file.Files;
import java.nio.file.Path;
import java.util.ArrayList;
import java.util.List;

/**
 * .ci/run in small projects of its own, each with a class, a test and a test under ../shared/tests: it passes if all of
 * them are right, and fails if one is not. It is run from the project's folder.
 */
public final class RunTest {
    private static final String CLASS = "public final class TwoCamps { public static final int NONE = -1; }";
    private static final String WARNED = "public final class TwoCamps { int f(int v) { switch (v) { case 0: v++; "
            + "default: return v; } } }";
    private static final String RIGHT = "System.exit(TwoCamps.NONE == -1 && Helper.ONE == 1 ? 0 : 1);";
    private static final String FAILS = "System.exit(1);";
    private static final String THROWS = "throw new IllegalStateException(\"as this test wants\");";
    private static final String SENSELESS = "int one = \"two\";";
    private static final String SHARED = "System.exit(TwoCamps.NONE == -1 ? 0 : 1);";
    private static final String NO_TEST = null;

    private final Path folder;
    private final List<String> names = new ArrayList<>();
    private final List<Process> started = new ArrayList<>();
    private final List<Integer> due = new ArrayList<>();

    private RunTest(Path made) {
        folder = made;
    }

    public static void main(String[] args) throws IOException, InterruptedException {
        Path folder = Files.createTempDirectory("run");
        Checks c = new Checks();
        try {
            RunTest test = new RunTest(folder);
            test.start("all is right", 0, CLASS, RIGHT, SHARED);
            test.start("a test fails", 1, CLASS, FAILS, SHARED);
            test.start("a test throws", 1, CLASS, THROWS, SHARED);
            test.start("a test does not compile", 1, CLASS, SENSELESS, SHARED);
            test.start("a shared test fails", 1, CLASS, RIGHT, FAILS);
            test.start("a shared test does not compile", 1, CLASS, RIGHT, SENSELESS);
            test.start("no shared test", 1, CLASS, RIGHT, NO_TEST);
            test.start("the class is warned of", 1, WARNED, RIGHT, SHARED);
            test.end(c);
        } finally {
            Folders.remove(folder);
        }
        c.end("RunTest");
    }

    /** The projects are run side by side, as each takes some seconds. */
    private void start(String name, int exit, String code, String own, String shared) throws IOException {
        Path project = folder.resolve(name).resolve("main");
        Path tests = folder.resolve(name).resolve("shared/tests");
        Files.createDirectories(project.resolve(".ci"));
        Files.createDirectories(project.resolve("src/main/java"));
        Files.createDirectories(project.resolve("src/test/java"));
        Files.createDirectories(tests);
        Files.copy(Path.of(".ci/run"), project.resolve(".ci/run"));
        Files.writeString(project.resolve("src/main/java/TwoCamps.java"), code);
        Files.writeString(project.resolve("src/test/java/Helper.java"), "final class Helper { static final int ONE = 1; }");
        Files.writeString(project.resolve("src/test/java/OwnTest.java"), program("OwnTest", own));
        if (shared != NO_TEST) {
            Files.writeString(tests.resolve("Runs.java"), program("Runs", shared));
        }
        names.add(name);
        due.add(exit);
        started.add(new ProcessBuilder(project.resolve(".ci/run").toAbsolutePath().toString())
                .directory(folder.toFile()).redirectErrorStream(true)
                .redirectOutput(told(name).toFile()).start());
    }

    private static String program(String name, String body) {
        return "public final class " + name + " { public static void main(String[] args) { " + body + " } }";
    }

    private Path told(String name) {
        return folder.resolve(name).resolve("told.txt");
    }

    private void end(Checks c) throws IOException, InterruptedException {
        for (int k = 0; k < names.size(); k++) {
            int exit = started.get(k).waitFor();
            String told = Files.readString(told(names.get(k)));
            c.due(names.get(k) + ": " + told, exit, due.get(k));
            if (due.get(k) == 0) {
                c.due(names.get(k) + ": " + told, told.endsWith("2 passed, 0 failed\n"), true);
            }
        }
    }
}
