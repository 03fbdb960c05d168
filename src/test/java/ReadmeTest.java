import java.io.IOException;
import java.lang.reflect.Method;
import java.lang.reflect.Modifier;
import java.net.URL;
import java.net.URLClassLoader;
import java.nio.file.Files;
import java.nio.file.Path;
import java.util.ArrayList;
import java.util.List;
import java.util.regex.Matcher;
import java.util.regex.Pattern;
import javax.tools.ToolProvider;

/** The example of README.md compiles, uses every method, and answers what it says; run from the project's folder. */
public final class ReadmeTest {
    private static final Checks CHECKS = new Checks("ReadmeTest");
    /** A call, perhaps with a name for its answer, and the answer. */
    private static final Pattern LINE = Pattern.compile("(?:int (\\w+) = )?(floor\\.\\w+\\(.*?\\)); *// ([^: ]+).*");

    public static void main(String[] args) throws Exception {
        List<String> calls = new ArrayList<>();
        List<String> answers = new ArrayList<>();
        StringBuilder body = new StringBuilder();
        for (String line : exampleLines()) {
            Matcher call = LINE.matcher(line);
            if (call.matches()) {
                calls.add(call.group(2));
                answers.add(call.group(3));
                body.append("got.add(").append(call.group(2)).append(");\n");
                if (call.group(1) != null) {
                    body.append("int ").append(call.group(1)).append(" = (int) got.get(got.size() - 1);\n");
                }
            } else {
                body.append(line).append('\n');
            }
        }
        List<?> got = run(body.toString());
        for (int i = 0; i < calls.size(); i++) {
            Object answer = got.get(i);
            CHECKS.due(calls.get(i), answers.get(i), () -> answer);
        }
        everyMethodIsUsed(calls);
        CHECKS.end();
    }

    private static String[] exampleLines() throws IOException {
        String readme = Files.readString(Path.of("README.md"));
        Matcher example = Pattern.compile("(?s)\n```java\n(.*?)\n```\n").matcher(readme);
        return example.find() ? example.group(1).split("\n") : new String[0];
    }

    private static List<?> run(String body) throws Exception {
        Path folder = Files.createTempDirectory("readme");
        Path file = folder.resolve("Example.java");
        Files.writeString(file, "public class Example { public static java.util.List<Object> answers() {\n"
            + "java.util.List<Object> got = new java.util.ArrayList<>();\n" + body + "return got; } }\n");
        int code = ToolProvider.getSystemJavaCompiler().run(null, null, null,
            "-cp", System.getProperty("java.class.path"), "-d", folder.toString(), file.toString());
        CHECKS.due("javac of the example", 0, () -> code);
        try (URLClassLoader loader = new URLClassLoader(new URL[] {folder.toUri().toURL()})) {
            return (List<?>) loader.loadClass("Example").getMethod("answers").invoke(null);
        } finally {
            Files.deleteIfExists(folder.resolve("Example.class"));
            Files.deleteIfExists(file);
            Files.deleteIfExists(folder);
        }
    }

    private static void everyMethodIsUsed(List<String> calls) {
        for (Method method : SliceBlocks.class.getDeclaredMethods()) {
            if (Modifier.isPublic(method.getModifiers())) {
                CHECKS.due("an example of " + method.getName(), true,
                    () -> calls.stream().anyMatch(call -> call.startsWith("floor." + method.getName() + "(")));
            }
        }
    }
}
