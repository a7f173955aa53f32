import java.io.IOException;
import java.lang.reflect.InvocationTargetException;
import java.lang.reflect.Method;
import java.lang.reflect.Modifier;
import java.nio.charset.StandardCharsets;
import java.nio.file.DirectoryStream;
import java.nio.file.Files;
import java.nio.file.Path;
import java.util.ArrayList;
import java.util.Arrays;
import java.util.List;
import java.util.Map;
import java.util.Set;
import java.util.TreeMap;
import java.util.TreeSet;
import java.util.regex.Matcher;
import java.util.regex.Pattern;

/**
 * What README.md says is so: its program is compiled and run, each answer told in it held against what comes; its
 * commands are done as they stand, in a copy of the project; its tables name all calls and all tests. It is run from
 * the project's folder.
 */
public final class ReadmeTest {
    private static final Pattern BLOCK = Pattern.compile("(?ms)^```(\\w+)\n(.*?)^```$");
    private static final Pattern SHOWN = Pattern.compile("(?m)^ *show\\((.*)\\); *// (true|false|-?[0-9]+)(: .*)?$");
    private static final Pattern ROW = Pattern.compile("(?m)^\\| `(.*?)` \\| (.*) \\|$");

    private final Checks c = new Checks();
    private final String page;
    private final Map<String, Method> calls = new TreeMap<>();

    private ReadmeTest(String read) {
        page = read;
        for (Method method : TwoCamps.class.getDeclaredMethods()) {
            if (Modifier.isPublic(method.getModifiers())) {
                calls.put(method.getName(), method);
            }
        }
    }

    public static void main(String[] args) throws Exception {
        ReadmeTest test = new ReadmeTest(Files.readString(Path.of("README.md")));
        Path copy = Files.createTempDirectory("readme");
        try {
            test.commands(copy);
        } finally {
            Folders.remove(copy);
        }
        test.refusals();
        test.tests();
        test.c.end("ReadmeTest");
    }

    private List<String> blocks(String language) {
        List<String> found = new ArrayList<>();
        Matcher m = BLOCK.matcher(page);
        while (m.find()) {
            if (m.group(1).equals(language)) {
                found.add(m.group(2));
            }
        }
        return found;
    }

    /** The program stands in the copy as Example.java; .ci/run, which runs this test, is left to RunTest. */
    private void commands(Path copy) throws IOException, InterruptedException {
        List<String> programs = blocks("java");
        List<String> commands = blocks("sh");
        c.due("one program", programs.size(), 1);
        c.due("three commands", commands.size(), 3);
        c.due(".ci/run is told of", commands.remove(".ci/run\n"), true);
        c.due(".ci/run can be run", Files.isExecutable(Path.of(".ci/run")), true);
        Folders.copy(Path.of("src"), copy.resolve("src"));
        Files.writeString(copy.resolve("Example.java"), programs.get(0));
        for (String command : commands) {
            Path told = copy.resolve("told.txt");
            Process process = new ProcessBuilder("sh", "-c", command).directory(copy.toFile())
                    .redirectErrorStream(true).redirectOutput(told.toFile()).start();
            c.due("exit code of " + command, process.waitFor(), 0);
            List<String> lines = Files.readAllLines(told, StandardCharsets.ISO_8859_1);
            if (command.contains("Example")) {
                answers(programs.get(0), lines);
            } else {
                c.due(command + " told " + lines, lines.size() == 1 && lines.get(0).endsWith(" 0 not as due"), true);
            }
        }
    }

    private void answers(String program, List<String> lines) {
        Set<String> unused = new TreeSet<>(calls.keySet());
        Matcher used = Pattern.compile("wood\\.(\\w+)\\(").matcher(program);
        while (used.find()) {
            unused.remove(used.group(1));
        }
        c.due("the program does all calls, but " + unused, unused.isEmpty(), true);
        c.due("each show( tells its answer", program.split(" show\\(wood").length - 1, lines.size());
        Matcher shown = SHOWN.matcher(program);
        int at = 0;
        while (shown.find()) {
            String got = at < lines.size() ? lines.get(at) : "nothing";
            c.due(shown.group(1) + " told " + got + ", on the page " + shown.group(2), got.equals(shown.group(2)), true);
            at++;
        }
        c.due("answers on the page", at, lines.size());
    }

    /** Each call that the table names, with numbers that are far too great (feed till the TAPE is full). */
    private void refusals() throws IllegalAccessException, InvocationTargetException {
        Set<String> left = new TreeSet<>(calls.keySet());
        Matcher row = ROW.matcher(page);
        while (row.find()) {
            if (row.group(1).matches("NONE.*|false")) {
                long want = row.group(1).equals("false") ? 0 : TwoCamps.NONE - less(row.group(1));
                for (String name : row.group(2).replace("`", "").split(" ")) {
                    c.due(name + " is a call", left.remove(name), true);
                    c.due(name + " without an answer", refusal(calls.get(name)), want);
                }
            }
        }
        c.due("all but state stand in the table: " + left, left.equals(Set.of("state")), true);
    }

    private static int less(String told) {
        return told.contains("-") ? Integer.parseInt(told.substring(told.indexOf("- ") + 2)) : 0;
    }

    private static long refusal(Method call) throws IllegalAccessException, InvocationTargetException {
        Object[] told = Arrays.stream(call.getParameterTypes()).map(type -> type == int.class ? (Object) 1000000 : false)
                .toArray();
        TwoCamps x = new TwoCamps();
        Object got = null;
        for (int k = 0; k < 26; k++) {
            got = call.invoke(x, told);
        }
        return got instanceof Boolean ? ((Boolean) got ? 1 : 0) : (Integer) got;
    }

    private void tests() throws IOException {
        Set<String> left = new TreeSet<>();
        try (DirectoryStream<Path> files = Files.newDirectoryStream(Path.of("src/test/java"), "*Test.java")) {
            files.forEach(file -> left.add(file.getFileName().toString().replace(".java", "")));
        }
        Matcher row = ROW.matcher(page);
        while (row.find()) {
            if (row.group(1).endsWith("Test")) {
                c.due(row.group(1) + " is a test", left.remove(row.group(1)), true);
            }
        }
        c.due("all tests stand in the table, but " + left, left.isEmpty(), true);
    }
}
