import java.io.IOException;
import java.lang.reflect.Method;
import java.lang.reflect.Modifier;
import java.net.URL;
import java.net.URLClassLoader;
import java.nio.file.Files;
import java.nio.file.Path;
import java.util.ArrayList;
import java.util.List;
import java.util.regex.Matcher;
import java.util.regex.Pattern;
import javax.tools.ToolProvider;

/** The examples of README.md are compiled and run: each answer that stands behind // must be the class's. */
public final class ReadmeTest {
    private static final int CALLS_MOST = 512, EXAMPLES_LEAST = 5;
    private static final Pattern BLOCK = Pattern.compile("(?s)```java\n(.*?)```");
    private static final Pattern CALL = Pattern.compile("(x\\.\\w+|tell)\\(.*");
    private static final Pattern ANSWERED = Pattern.compile("((?:x\\.|tell\\().*\\)); *// (-?\\d+|NONE|UNKNOWN|OUTSIDE|NOT|FULL)(:.*)?");
    private static final Pattern TEXT = Pattern.compile("\"([^\"]*)\"");
    private static final Check check = new Check();

    public static void main(String[] args) throws Exception {
        String page = Files.readString(Path.of("README.md"));
        eachMethodStandsThere(page);
        runExamples(page);
        check.end();
    }

    private static void eachMethodStandsThere(String page) {
        for (Method m : MixedRules.class.getDeclaredMethods()) {
            if (Modifier.isPublic(m.getModifiers())) {
                check.due("README.md tells of " + m.getName(), page.contains("`" + m.getName() + "(") ? 1 : 0, 1);
            }
        }
    }

    private static void runExamples(String page) throws Exception {
        StringBuilder members = new StringBuilder();
        List<String> names = new ArrayList<>();
        Matcher m = BLOCK.matcher(page);
        while (m.find()) {
            if (m.group(1).startsWith("static ")) {
                members.append(m.group(1));
            } else {
                names.add("example" + names.size());
                members.append("static void ").append(names.get(names.size() - 1)).append("() {\n").append(body(m.group(1))).append("}\n");
            }
        }
        check.due("README.md has examples, " + names.size() + "; enough", names.size() >= EXAMPLES_LEAST ? 1 : 0, 1);
        Class<?> examples = compiled("final class Examples {\n" + members + "}\n");
        for (String name : names) {
            Method example = examples.getDeclaredMethod(name);
            example.setAccessible(true);
            example.invoke(null);
        }
    }

    /** An example's lines, each call in them held against the answer that the page tells. */
    private static String body(String lines) {
        StringBuilder all = new StringBuilder();
        int calls = 0;
        for (String line : lines.split("\n")) {
            Matcher m = ANSWERED.matcher(line);
            if (m.matches()) {
                String want = Character.isLetter(m.group(2).charAt(0)) ? "MixedRules." + m.group(2) : m.group(2);
                String told = m.group(1).replace("\\", "\\\\").replace("\"", "\\\"");
                all.append("ReadmeTest.due(\"").append(told).append("\", ").append(m.group(1)).append(", ").append(want).append(");\n");
                Matcher text = TEXT.matcher(m.group(1));
                calls += text.find() ? text.group(1).length() + 1 : 1;
            } else {
                check.due("README.md tells what is answered by: " + line, CALL.matcher(line).lookingAt() ? 0 : 1, 1);
                all.append(line).append('\n');
            }
        }
        check.due("an example of README.md has no more calls than an object may have", calls <= CALLS_MOST ? 1 : 0, 1);
        return all.toString();
    }

    /** Public, for the examples are loaded beside it. */
    public static void due(String call, int got, int want) {
        check.due("README.md: " + call, got, want);
    }

    private static Class<?> compiled(String source) throws IOException, ClassNotFoundException {
        Path folder = Files.createTempDirectory("readme");
        try (URLClassLoader loader = new URLClassLoader(new URL[] {folder.toUri().toURL()})) {
            Path file = folder.resolve("Examples.java");
            Files.writeString(file, source);
            int code = ToolProvider.getSystemJavaCompiler().run(null, null, null, "-cp", System.getProperty("java.class.path"),
                    "-d", folder.toString(), file.toString());
            check.due("the examples of README.md compile", code, 0);
            return Class.forName("Examples", true, loader);
        } finally {
            for (String name : new String[] {"Examples.java", "Examples.class"}) {
                Files.deleteIfExists(folder.resolve(name));
            }
            Files.delete(folder);
        }
    }
}
