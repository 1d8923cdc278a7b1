import java.io.IOException;
import java.lang.reflect.Method;
import java.net.URL;
import java.net.URLClassLoader;
import java.nio.file.Files;
import java.nio.file.Path;
import java.util.ArrayList;
import java.util.List;
import java.util.regex.Matcher;
import java.util.regex.Pattern;
import javax.tools.JavaCompiler;
import javax.tools.ToolProvider;

/**
 * README.md holds: its examples compile and answer what their comments say, and it names every call. Read from the
 * project's folder.
 */
final class ReadmeTest {
    private static final Check CHECK = new Check("ReadmeTest");
    private static final Path PAGE = Path.of("README.md");
    private static final Pattern EXAMPLE = Pattern.compile("(?s)```java\n(.*?)```");
    private static final Pattern CALL = Pattern.compile("(counter\\..*);\\s+// (.*?): .*");

    private final List<String> calls = new ArrayList<>();
    private final List<String> due = new ArrayList<>();

    public static void main(String[] args) throws Exception {
        String page = Files.readString(PAGE);
        new ReadmeTest().examples(page);
        for (Method method : EscrowCounter.class.getDeclaredMethods()) {
            boolean isNamed = page.contains("`" + method.getName() + "(") || !method.toString().startsWith("public");
            CHECK.note(isNamed, "no word of " + method.getName());
        }
        CHECK.end();
    }

    private void examples(String page) throws Exception {
        StringBuilder code = new StringBuilder("public class Examples {\n"
                + "public static void run(java.util.List<String> answers) {\n");
        Matcher m = EXAMPLE.matcher(page);
        while (m.find()) {
            code.append("{\n");
            m.group(1).lines().forEach(line -> code.append(statement(line)).append('\n'));
            code.append("}\n");
        }
        List<String> answers = answersOf(code.append("}\n}\n").toString());
        CHECK.note(calls.size() > 30, "the examples were not found");
        CHECK.same("answers", answers.size(), calls.size());
        for (int i = 0; i < Math.min(calls.size(), answers.size()); i++) {
            CHECK.same(calls.get(i), answers.get(i), due.get(i));
        }
    }

    /** A call with its answer behind it is noted; another line stands as it is. */
    private String statement(String line) {
        Matcher m = CALL.matcher(line);
        if (!m.matches()) {
            CHECK.note(!line.startsWith("counter."), "a call without its answer: " + line);
            return line;
        }
        calls.add(m.group(1));
        due.add(m.group(2));
        return "try { answers.add(String.valueOf(" + m.group(1) + ")); }"
                + " catch (RuntimeException e) { answers.add(\"throws \" + e.getClass().getSimpleName()); }";
    }

    private static List<String> answersOf(String code) throws Exception {
        List<String> answers = new ArrayList<>();
        Path folder = Files.createTempDirectory("readme");
        try {
            Path source = Files.writeString(folder.resolve("Examples.java"), code);
            JavaCompiler compiler = ToolProvider.getSystemJavaCompiler();
            int result = compiler.run(null, null, null, "-cp", System.getProperty("java.class.path"), "-d",
                    folder.toString(), source.toString());
            CHECK.same("compiling the examples", result, 0);
            if (result == 0) {
                run(folder, answers);
            }
        } finally {
            remove(folder);
        }
        return answers;
    }

    private static void run(Path folder, List<String> answers) throws Exception {
        try (URLClassLoader loader = new URLClassLoader(new URL[] {folder.toUri().toURL()})) {
            loader.loadClass("Examples").getMethod("run", List.class).invoke(null, answers);
        }
    }

    private static void remove(Path folder) throws IOException {
        for (String name : new String[] {"Examples.java", "Examples.class", ""}) {
            Files.deleteIfExists(folder.resolve(name));
        }
    }
}
