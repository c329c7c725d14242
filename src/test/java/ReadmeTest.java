import java.io.IOException;
import java.lang.reflect.Method;
import java.lang.reflect.Modifier;
import java.net.URL;
import java.net.URLClassLoader;
import java.nio.charset.StandardCharsets;
import java.nio.file.Files;
import java.nio.file.Path;
import java.util.List;
import java.util.regex.Matcher;
import java.util.regex.Pattern;
import java.util.stream.Stream;
import javax.tools.ToolProvider;

/**
 * The examples of README.md, compiled and run: a call with "// N" behind it is to answer that. They are one program;
 * an example that starts with "static" is a method of it. Run where README.md lies.
 */
public final class ReadmeTest {
    private static final Pattern EXAMPLE = Pattern.compile("(?s)```java\n(.*?)```");
    private static final Pattern ANSWER = Pattern.compile("^(\\w+\\.\\w+\\(.*?\\));\\s*// (-?\\d+|true|false)\\b.*$");

    private ReadmeTest() {
    }

    public static void main(String[] args) throws Exception {
        String text = Files.readString(Path.of("README.md"), StandardCharsets.UTF_8);
        names(text);
        Path work = Files.createTempDirectory("readme");
        try {
            run(compiled(program(text), work));
        } finally {
            remove(work);
        }
        Check.finish();
    }

    private static void names(String text) {
        for (Method method : ShadowSpaces.class.getDeclaredMethods()) {
            if (Modifier.isPublic(method.getModifiers())) {
                Check.due(method.getName() + " is named", text.contains("`" + method.getName() + "`"), true);
            }
        }
    }

    /** Each answer goes into a list: the call, what it answered, what stands behind it. */
    private static String program(String text) {
        StringBuilder methods = new StringBuilder();
        StringBuilder lines = new StringBuilder();
        Matcher example = EXAMPLE.matcher(text);
        while (example.find()) {
            if (example.group(1).startsWith("static ")) {
                methods.append(example.group(1));
                continue;
            }
            for (String line : example.group(1).split("\n")) {
                Matcher answer = ANSWER.matcher(line);
                boolean found = answer.matches();
                Check.due("a call has its answer behind it: " + line, found || !line.contains("//"), true);
                lines.append(found ? told(answer.group(1), answer.group(2)) : line).append('\n');
            }
        }
        return "public class Examples {\n" + methods + "public static java.util.List<String[]> all() {\n"
            + "java.util.List<String[]> told = new java.util.ArrayList<>();\n" + lines + "return told;\n}\n}\n";
    }

    private static String told(String call, String due) {
        return "told.add(new String[] {\"" + call.replace("\"", "\\\"") + "\", \"\" + " + call + ", \"" + due + "\"});";
    }

    private static Path compiled(String program, Path work) throws IOException {
        Path source = work.resolve("Examples.java");
        Files.writeString(source, program, StandardCharsets.UTF_8);
        int exit = ToolProvider.getSystemJavaCompiler().run(null, null, null, "-nowarn", "-cp",
            System.getProperty("java.class.path"), "-d", work.toString(), source.toString());
        Check.due("the examples compile", exit, 0);
        return work;
    }

    private static void run(Path classes) throws Exception {
        try (URLClassLoader loader = new URLClassLoader(new URL[] {classes.toUri().toURL()})) {
            List<?> told = (List<?>) loader.loadClass("Examples").getMethod("all").invoke(null);
            for (Object one : told) {
                String[] answer = (String[]) one;
                Check.due("README: " + answer[0], answer[1], answer[2]);
            }
            Check.due("README has examples", told.size() >= 20, true);
        }
    }

    private static void remove(Path work) throws IOException {
        List<Path> all;
        try (Stream<Path> found = Files.list(work)) {
            all = found.toList();
        }
        for (Path one : all) {
            Files.delete(one);
        }
        Files.delete(work);
    }
}
