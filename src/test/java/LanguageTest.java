import java.io.IOException;
import java.nio.file.Files;
import java.nio.file.Path;
import java.util.HashMap;
import java.util.HashSet;
import java.util.Map;
import java.util.Set;
import java.util.regex.Matcher;
import java.util.regex.Pattern;

/** What of LANGUAGE.md can be seen in the text of the class. It is run from the project's folder. */
public final class LanguageTest {
    private static final String[] FORBIDDEN = {"\\bthrow\\b", "\\bthrows\\b", "\\btry\\b", "\\bcatch\\b",
        "\\bsynchronized\\b", "\\bassert\\b", "->", "::", "\\bprotected\\b", "\\bpackage\\b", "\\bObject\\b",
        "\\bequals\\b", "\\bhashCode\\b", "\\btoString\\b", "\\bSystem\\.(?!arraycopy\\b)", "\\bInteger\\.(?!bitCount\\b)",
        "\\bMath\\.(?!(max|min|abs|floorDiv)\\b)", "\\bArrays\\.(?!fill\\b)", "\"\\s*\\+", "\\+\\s*\"", "Exact\\b",
        "\\bstatic\\s*\\{", "\\bvar\\b", "\\bboolean\\["};

    public static void main(String[] args) throws IOException {
        Checks c = new Checks();
        String source = Files.readString(Path.of("src/main/java/TwoCamps.java"));
        String code = source.replaceAll("(?s)/\\*.*?\\*/", "").replaceAll("//[^\n]*", "");
        for (String pattern : FORBIDDEN) {
            c.due(pattern, Pattern.compile(pattern).matcher(code).find(), false);
        }
        c.due("signs 1 to 127", source.chars().allMatch(sign -> sign == '\n' || sign >= 32 && sign <= 126), true);
        c.due("imports", count("(?m)^import ", code), 1);
        c.due("import java.util.Arrays", count("(?m)^import java\\.util\\.Arrays;", code), 1);
        c.due("twelve classes at most", count("\\bclass \\w+ \\{", code) <= 12, true);
        methods(c, code);
        Map<String, String> bodies = bodies(code);
        c.due("methods found", bodies.size() > 100, true);
        for (String method : bodies.keySet()) {
            int deep = deepest(bodies, method, new HashSet<>());
            c.due(method + " goes " + deep + " deep", deep <= 8, true);
        }
        c.end("LanguageTest");
    }

    private static int count(String pattern, String code) {
        Matcher m = Pattern.compile(pattern).matcher(code);
        int n = 0;
        while (m.find()) {
            n++;
        }
        return n;
    }

    /** Methods have sixty lines and seven parameters at most; each class twenty fields beside its constants. */
    private static void methods(Checks c, String code) {
        String[] lines = code.split("\n");
        String method = null;
        int start = 0;
        int fields = 0;
        for (int k = 0; k < lines.length; k++) {
            String line = lines[k];
            if (line.matches(" {4,8}(public|private) [^;=]*\\(.*\\{")) {
                method = line.strip();
                start = k;
                String inner = line.substring(line.indexOf('(') + 1, line.indexOf(')'));
                c.due("parameters of " + method, inner.split(",").length <= 7, true);
            } else if (method != null && line.matches(" {4,8}\\}")
                    && line.indexOf('}') == lines[start].indexOf(lines[start].strip())) {
                c.due("lines of " + method, k - start + 1 <= 60, true);
                method = null;
            }
            if (line.contains(" class ")) {
                fields = 0;
            } else if (line.matches(" {4,8}private (?!static)[^(]*(= .*)?;")) {
                fields++;
                c.due("fields up to " + line.strip(), fields <= 20, true);
            }
        }
    }

    /** What stands in each method, by "Class.method"; some bear one name in several classes. */
    private static Map<String, String> bodies(String code) {
        Map<String, String> bodies = new HashMap<>();
        String inner = "TwoCamps";
        String method = null;
        String end = null;
        for (String line : code.split("\n")) {
            Matcher start = Pattern.compile("( {4,8})(?:public|private) [^;=]*?(\\w+)\\(.*\\{").matcher(line);
            if (line.contains(" class ")) {
                inner = line.replaceAll(".* class (\\w+) .*", "$1");
            } else if (method == null && start.matches()) {
                method = (start.group(1).length() == 4 ? "TwoCamps" : inner) + "." + start.group(2);
                end = start.group(1) + "}";
                bodies.put(method, "");
            } else if (line.equals(end)) {
                method = null;
            } else if (method != null) {
                bodies.merge(method, line + "\n", String::concat);
            }
        }
        return bodies;
    }

    /** How many calls stand open at most, those that recur counted once. */
    private static int deepest(Map<String, String> bodies, String method, Set<String> open) {
        int deepest = 0;
        open.add(method);
        Matcher call = Pattern.compile("(\\.?)\\b(\\w+)\\(").matcher(bodies.get(method));
        while (call.find()) {
            String name = "." + call.group(2);
            String own = method.substring(0, method.indexOf('.')) + name;
            for (String called : bodies.keySet()) {
                boolean isMeant = !call.group(1).isEmpty() ? called.endsWith(name)
                        : called.equals(bodies.containsKey(own) ? own : "TwoCamps" + name);
                if (isMeant && !open.contains(called)) {
                    deepest = Math.max(deepest, deepest(bodies, called, open));
                }
            }
        }
        open.remove(method);
        return deepest + 1;
    }
}
