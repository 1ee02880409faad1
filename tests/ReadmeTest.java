import java.io.File;
import java.lang.reflect.Method;
import java.lang.reflect.Modifier;
import java.net.URL;
import java.net.URLClassLoader;
import java.nio.file.Files;
import java.nio.file.Path;
import java.util.ArrayList;
import java.util.List;
import java.util.regex.Matcher;
import java.util.regex.Pattern;
import javax.tools.ToolProvider;

/** What README.md says of the calls: each answer behind a call is given, and each call of the face is named. */
public final class ReadmeTest {
    private static final Pattern BLOCK = Pattern.compile("```java\n(.*?)```", Pattern.DOTALL);
    /** What is declared (or nothing), the call, its answer. */
    private static final Pattern CALL =
        Pattern.compile("(?:int (\\w+) = )?(\\w+\\.\\w+\\(.*?\\)); +// (-?\\d+|true|false)\\b.*");
    private static final List<String> calls = new ArrayList<>();
    private static final List<String> dues = new ArrayList<>();

    public static void main(String[] args) throws Exception {
        String readme = Files.readString(Path.of("README.md"));
        StringBuilder body = new StringBuilder();
        Matcher block = BLOCK.matcher(readme);
        while (block.find()) {
            body.append("{\n");
            for (String line : block.group(1).split("\n")) {
                body.append(code(line)).append('\n');
            }
            body.append("}\n");
        }
        List<Object> got = new ArrayList<>();
        runAll(body.toString(), got);
        Due.is("README.md has answers to hold to", calls.size() > 30, true);
        Due.is("all of them were asked", got.size(), calls.size());
        for (int i = 0; i < got.size(); i++) {
            String call = "README.md: " + calls.get(i) + " answered " + got.get(i) + ", not " + dues.get(i);
            Due.is(call, got.get(i).toString().equals(dues.get(i)), true);
        }
        for (Method m : SlipperTruce.class.getDeclaredMethods()) {
            if (Modifier.isPublic(m.getModifiers())) {
                Due.is("README.md names " + m.getName(), readme.contains("`" + m.getName() + "`"), true);
            }
        }
        Due.close("ReadmeTest");
    }

    /** The line as code that keeps its answer. */
    private static String code(String line) {
        Matcher call = CALL.matcher(line);
        if (!call.matches()) {
            boolean other = line.isBlank() || line.startsWith("//") || line.contains(" = new ");
            Due.is("a line of README.md that can be read: " + line, other, true);
            return line;
        }
        calls.add(call.group(2));
        dues.add(call.group(3));
        String name = call.group(1);
        return name == null ? "got.add(" + call.group(2) + ");"
            : "int " + name + " = " + call.group(2) + "; got.add(" + name + ");";
    }

    private static void runAll(String body, List<Object> got) throws Exception {
        Path dir = Files.createTempDirectory("readme");
        Path source = dir.resolve("ReadmeSaid.java");
        Files.writeString(source, "public class ReadmeSaid {\n"
            + "public static void run(java.util.List<Object> got) {\n" + body + "}\n}\n");
        String classes = System.getProperty("java.class.path");
        int failed = ToolProvider.getSystemJavaCompiler()
            .run(null, null, null, "-d", dir.toString(), "-cp", classes, source.toString());
        Due.is("README.md compiles", failed, 0);
        if (failed == 0) {
            try (URLClassLoader loader = new URLClassLoader(new URL[] {dir.toUri().toURL()})) {
                loader.loadClass("ReadmeSaid").getMethod("run", List.class).invoke(null, got);
            }
        }
        for (File file : dir.toFile().listFiles()) {
            file.delete();
        }
        Files.delete(dir);
    }
}
