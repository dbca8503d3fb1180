import java.io.IOException;
import java.lang.reflect.Method;
import java.lang.reflect.Modifier;
import java.net.URL;
import java.net.URLClassLoader;
import java.nio.file.DirectoryStream;
import java.nio.file.Files;
import java.nio.file.Path;
import java.util.ArrayList;
import java.util.List;
import java.util.regex.Matcher;
import java.util.regex.Pattern;
import javax.tools.ToolProvider;

/** The examples of README.md are compiled and run; the page names every call and every test. */
public final class ReadmeTest {
    private static final Pattern BLOCK = Pattern.compile("```java\n(.*?)```", Pattern.DOTALL);
    private static final Pattern ANSWERED =
            Pattern.compile("^(\\w+\\.\\w+\\(.*\\)); +// (-?\\d+): .*$");
    private static final Check C = new Check();

    private ReadmeTest() {
    }

    public static void main(String[] args) throws IOException, ReflectiveOperationException {
        String page = Files.readString(Path.of("README.md"));
        List<Object[]> answers = answersOf(page);
        C.part("README.md, an example");
        C.holds("examples are there", answers.size() >= 20);
        for (Object[] answer : answers) {
            C.due((String) answer[0], (Long) answer[1], (Long) answer[2]);
        }
        C.part("README.md");
        namesEveryCall(page);
        namesEveryTest(page);
        C.end();
    }

    /** Call, answer, what the page says it is. */
    private static List<Object[]> answersOf(String page)
            throws IOException, ReflectiveOperationException {
        Path folder = Files.createTempDirectory("readme");
        Path source = folder.resolve("Example.java");
        Files.writeString(source, sourceOf(page));
        int exit = ToolProvider.getSystemJavaCompiler().run(null, null, null, "-encoding", "UTF-8",
                "-cp", System.getProperty("java.class.path"), "-d", folder.toString(),
                source.toString());
        C.due("javac of the examples", exit, 0);
        List<Object[]> answers = new ArrayList<>();
        if (exit == 0) {
            URL[] places = {folder.toUri().toURL()};
            try (URLClassLoader loader = new URLClassLoader(places)) {
                loader.loadClass("Example").getMethod("run", List.class).invoke(null, answers);
            }
        }
        for (String name : new String[] {"Example.class", "Example.java", ""}) {
            Files.deleteIfExists(folder.resolve(name));
        }
        return answers;
    }

    private static String sourceOf(String page) {
        StringBuilder s = new StringBuilder("public final class Example {\n");
        s.append("public static void run(java.util.List<Object[]> answers) {\n");
        Matcher block = BLOCK.matcher(page);
        while (block.find()) {
            for (String line : block.group(1).split("\n")) {
                Matcher call = ANSWERED.matcher(line);
                if (call.matches()) {
                    s.append("answers.add(new Object[] {\"").append(call.group(1));
                    s.append("\", (long) ").append(call.group(1));
                    s.append(", ").append(call.group(2)).append("L});\n");
                } else {
                    s.append(line).append('\n');
                }
            }
        }
        return s.append("}\n}\n").toString();
    }

    private static void namesEveryCall(String page) {
        for (Method m : CoatsOnTheBed.class.getDeclaredMethods()) {
            if (Modifier.isPublic(m.getModifiers())) {
                C.holds("names " + m.getName(), page.contains("`" + m.getName() + "`"));
            }
        }
    }

    private static void namesEveryTest(String page) throws IOException {
        Path tests = Path.of("src", "test", "java");
        try (DirectoryStream<Path> files = Files.newDirectoryStream(tests, "*Test.java")) {
            for (Path file : files) {
                String name = file.getFileName().toString().replace(".java", "");
                C.holds("names " + name, page.contains("| `" + name + "` |"));
            }
        }
    }
}
