import java.lang.reflect.Field;
import java.lang.reflect.Method;
import java.lang.reflect.Modifier;
import java.nio.file.Files;
import java.nio.file.Path;
import java.util.Arrays;
import java.util.List;
import java.util.Set;
import java.util.TreeSet;
import java.util.regex.Matcher;
import java.util.regex.Pattern;

/** The document's face, and the rules of LANGUAGE.md that a program can look at. */
public final class RulesTest {
    private static final List<String> FACE = List.of(
        "int node()", "int arc(int,int,int)", "int change(int,int)", "int drop(int)", "int clear()",
        "int parts()", "int least()", "long leastSet()", "long ties()", "int next()", "int swap(int)",
        "int judge(long)", "int height(int,int)", "int bounded(int)", "long boundedSet(int)",
        "int rooted(int)", "int rootedArc(int,int)", "int unreached(int)", "int joined(int)", "long joinedSet(int)");
    private static final String[] NOT_ALLOWED = {
        "\\bthrow\\b", "\\bthrows\\b", "\\btry\\b", "\\bcatch\\b", "\\bsynchronized\\b", "\\bassert\\b", "\\bpackage\\b",
        "->", "::", "Exact\\b", "while \\(true\\)", "for \\(;;\\)", "\\bhashCode\\b", "\\btoString\\b", "static \\{",
        "\\bRandom\\b", "\\bThread\\b", "nanoTime", "currentTimeMillis", "\\bObject\\b", "\\bprotected\\b"};
    private static final Check check = new Check();

    public static void main(String[] args) throws Exception {
        face();
        members(RootedTrees.class);
        for (Class<?> inner : RootedTrees.class.getDeclaredClasses()) {
            check.due(inner + " is static", Modifier.isStatic(inner.getModifiers()) ? 1 : 0, 1);
            check.due(inner + " is public", Modifier.isPublic(inner.getModifiers()) ? 1 : 0, 0);
            members(inner);
        }
        check.due("too many classes", RootedTrees.class.getDeclaredClasses().length > 11 ? 1 : 0, 0);
        source(Files.readString(Path.of(args.length > 0 ? args[0] : "src/main/java/RootedTrees.java")));
        check.end("RulesTest");
    }

    private static void face() {
        int modifiers = RootedTrees.class.getModifiers();
        check.due("public final", Modifier.isPublic(modifiers) && Modifier.isFinal(modifiers) ? 1 : 0, 1);
        check.due("constructors", RootedTrees.class.getDeclaredConstructors().length, 1);
        check.due("public constructors", RootedTrees.class.getConstructors().length, 1);
        Set<String> found = new TreeSet<>();
        for (Method method : RootedTrees.class.getDeclaredMethods()) {
            if (!Modifier.isPrivate(method.getModifiers())) {
                found.add(signature(method));
            }
        }
        check.due("the face " + found, found.equals(new TreeSet<>(FACE)) ? 1 : 0, 1);
        for (Field field : RootedTrees.class.getDeclaredFields()) {
            check.due(field + " is private", Modifier.isPrivate(field.getModifiers()) ? 1 : 0, 1);
        }
    }

    private static String signature(Method method) {
        StringBuilder text = new StringBuilder(method.getReturnType() + " " + method.getName() + "(");
        for (Class<?> type : method.getParameterTypes()) {
            text.append(text.toString().endsWith("(") ? "" : ",").append(type);
        }
        return text.append(")").toString();
    }

    private static void members(Class<?> type) {
        int fields = 0;
        for (Field field : type.getDeclaredFields()) {
            boolean isStatic = Modifier.isStatic(field.getModifiers());
            fields += isStatic ? 0 : 1;
            check.due(field + " is final", !isStatic || Modifier.isFinal(field.getModifiers()) ? 1 : 0, 1);
        }
        check.due("too many fields of " + type, fields > 20 ? 1 : 0, 0);
        for (Method method : type.getDeclaredMethods()) {
            check.due("too many parameters of " + method, method.getParameterCount() > 7 ? 1 : 0, 0);
            boolean sameName = FACE.stream().anyMatch(f -> f.contains(" " + method.getName() + "("));
            boolean isPublic = type == RootedTrees.class && Modifier.isPublic(method.getModifiers());
            check.due(method + " bears a name of the face", sameName && !isPublic ? 1 : 0, 0);
        }
    }

    private static void source(String text) {
        String code = text.replaceAll("(?s)/\\*.*?\\*/", "").replaceAll("//[^\n]*", "");
        for (String pattern : NOT_ALLOWED) {
            check.due(pattern + " in the source", Pattern.compile(pattern).matcher(code).find() ? 1 : 0, 0);
        }
        Matcher imports = Pattern.compile("import ([^;]*);").matcher(code);
        while (imports.find()) {
            check.due("import " + imports.group(1), imports.group(1).equals("java.util.Arrays") ? 1 : 0, 1);
        }
        check.due("characters above 255", text.chars().anyMatch(c -> c > 255) ? 1 : 0, 0);
        methodLengths(code.split("\n"));
        sections(text);
    }

    /** What the interface says ahead of its calls stands there, and no call of another part in between. */
    private static void sections(String text) {
        List<String> marks = List.of("// ---- forests", "// ---- rooted", "// ---- joined");
        List<String> first = List.of("int parts()", "int rooted(int root)", "int joined(int ends)");
        for (int i = 0; i < marks.size(); i++) {
            String ahead = marks.get(i) + "\n\n    public " + first.get(i);
            check.due(marks.get(i) + " ahead of " + first.get(i), text.contains(ahead) ? 1 : 0, 1);
        }
        int place = -1;
        for (String call : FACE) {
            String name = call.substring(0, call.indexOf('(') + 1);
            int found = text.indexOf("    public " + name);
            check.due(name + " in the document's order", found > place ? 1 : 0, 1);
            place = found;
        }
    }

    private static void methodLengths(String[] lines) {
        int start = 0;
        for (int i = 0; i < lines.length; i++) {
            if (lines[i].matches(" {4}( {4})?[\\w\\[\\]. ]+\\([^;]*\\) \\{")) {
                start = i;
            }
            if (lines[i].matches(" {4}( {4})?\\}")) {
                check.due("too long at line " + start, i - start > 60 && start > 0 ? 1 : 0, 0);
                start = 0;
            }
        }
        check.due("methods are indented by 4", Arrays.stream(lines).anyMatch(l -> l.startsWith("    public int node()")) ? 1 : 0, 1);
    }
}
