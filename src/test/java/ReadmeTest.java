import java.io.IOException;
import java.lang.reflect.Method;
import java.lang.reflect.Modifier;
import java.nio.file.Files;
import java.nio.file.Path;
import java.util.ArrayList;
import java.util.HashMap;
import java.util.HashSet;
import java.util.List;
import java.util.Map;
import java.util.Set;
import java.util.regex.Matcher;
import java.util.regex.Pattern;
import java.util.stream.Stream;

/** README.md tells every call and every test, and the calls of its example answer what it says. */
public final class ReadmeTest {
    private static final Pattern CALL = Pattern.compile("(?:int (\\w) = )?x\\.(\\w+)\\(([^)]*)\\); +// (-?\\d+).*");
    private static final Pattern ROW = Pattern.compile("\\| `(\\w+\\([^)]*\\))` \\|[^|]*\\|([^|]*)\\|");
    /** The document's calls, with the names of what they are handed and their refusals in its order. */
    private static final List<String> PROMISED = List.of(
        "node() -4", "arc(from, to, weight) -1, -2, -4", "change(arc, weight) -1, -2", "drop(arc) -1", "clear()",
        "parts()", "least()", "leastSet()", "ties()", "next() -3", "swap(what) -2, -3", "judge(set)",
        "height(a, b) -1, -3", "bounded(d) -2, -4, -3", "boundedSet(d) -2, -4, -3", "rooted(root) -1, -3",
        "rootedArc(root, node) -1, -3", "unreached(root) -1", "joined(ends) -2, -3", "joinedSet(ends) -2, -3");
    private static final Check check = new Check();

    public static void main(String[] args) throws Exception {
        String text = Files.readString(Path.of("README.md"));
        List<String> lines = text.lines().toList();
        example(lines);
        table(lines);
        tests(text);
        check.end("ReadmeTest");
    }

    private static void example(List<String> lines) throws Exception {
        RootedTrees x = new RootedTrees();
        Map<String, Long> names = new HashMap<>();
        Set<String> called = new HashSet<>();
        for (String line : lines) {
            Matcher call = CALL.matcher(line);
            if (call.matches()) {
                long got = answer(x, call.group(2), call.group(3), names);
                check.due("README.md: " + line, got, Long.parseLong(call.group(4)));
                called.add(call.group(2));
                if (call.group(1) != null) {
                    names.put(call.group(1), got);
                }
            } else {
                check.due("a call without its answer: " + line, line.matches(".*\\bx\\.\\w+\\(.*") ? 1 : 0, 0);
            }
        }
        for (Method method : RootedTrees.class.getDeclaredMethods()) {
            if (Modifier.isPublic(method.getModifiers())) {
                check.due(method.getName() + " in the example", called.contains(method.getName()) ? 1 : 0, 1);
            }
        }
    }

    private static long answer(RootedTrees x, String name, String told, Map<String, Long> names) throws Exception {
        String[] words = told.isEmpty() ? new String[0] : told.split(", ");
        for (Method method : RootedTrees.class.getDeclaredMethods()) {
            if (method.getName().equals(name) && method.getParameterCount() == words.length) {
                Object[] handed = new Object[words.length];
                for (int i = 0; i < words.length; i++) {
                    Long value = names.containsKey(words[i]) ? names.get(words[i]) : Long.valueOf(words[i]);
                    boolean isLong = method.getParameterTypes()[i] == long.class;
                    handed[i] = isLong ? (Object) value : (Object) value.intValue();
                }
                return ((Number) method.invoke(x, handed)).longValue();
            }
        }
        throw new IllegalStateException("the example calls " + name + ", which there is not");
    }

    private static void table(List<String> lines) {
        List<String> rows = new ArrayList<>();
        for (String line : lines) {
            Matcher row = ROW.matcher(line);
            if (row.matches()) {
                rows.add((row.group(1) + " " + row.group(2).trim()).trim());
            }
        }
        check.due("rows of calls", rows.size(), PROMISED.size());
        for (int i = 0; i < Math.min(rows.size(), PROMISED.size()); i++) {
            boolean isAlike = rows.get(i).equals(PROMISED.get(i));
            check.due("the row is " + rows.get(i) + ", due is " + PROMISED.get(i) + ":", isAlike ? 1 : 0, 1);
        }
    }

    private static void tests(String text) throws IOException {
        check.due("how to run the tests", text.contains("\n.ci/run\n") ? 1 : 0, 1);
        try (Stream<Path> files = Files.list(Path.of("src/test/java"))) {
            for (Path file : files.toList()) {
                String name = file.getFileName().toString().replace(".java", "");
                if (name.endsWith("Test")) {
                    check.due(name + " in README.md", text.contains("| `" + name + "` |") ? 1 : 0, 1);
                }
            }
        }
        Matcher row = Pattern.compile("\\| `(\\w+Test)` \\|").matcher(text);
        while (row.find()) {
            boolean isThere = Files.exists(Path.of("src/test/java", row.group(1) + ".java"));
            check.due(row.group(1) + " of README.md is there", isThere ? 1 : 0, 1);
        }
    }
}
