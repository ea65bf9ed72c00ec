import java.io.File;
import java.lang.reflect.Method;
import java.lang.reflect.Modifier;
import java.net.URL;
import java.net.URLClassLoader;
import java.nio.file.Files;
import java.nio.file.Path;
import java.util.regex.Matcher;
import java.util.regex.Pattern;
import javax.tools.JavaCompiler;
import javax.tools.ToolProvider;

/** README.md: its examples answer what it says they do, and it tells every call and every test. */
public final class ReadmeTest extends Bench {
    private static final Pattern EXAMPLE = Pattern.compile("(?s)```java\n(.*?)```");
    /** A call, and behind it what it answers. */
    private static final Pattern ANSWERED = Pattern.compile("(?m)^(\\w[^\n]*?);  +// (-?\\d+|true|false)\\b[^\n]*$");

    private static int answers;

    /** The examples as one class: methods as they stand, of other lines each answer looked at. */
    private static String program(String readme) {
        StringBuilder methods = new StringBuilder();
        StringBuilder calls = new StringBuilder();
        Matcher example = EXAMPLE.matcher(readme);
        while (example.find()) {
            String code = example.group(1);
            if (code.startsWith("static ")) {
                methods.append(code);
            } else {
                calls.append("{\n").append(looking(code)).append("}\n");
            }
        }
        return "public class Examples {\n" + methods
            + "public static void examples() {\n" + calls + "}\n}\n";
    }

    private static String looking(String code) {
        Matcher answered = ANSWERED.matcher(code);
        StringBuilder out = new StringBuilder();
        while (answered.find()) {
            answers++;
            String call = answered.group(1);
            String shown = call.replace("\"", "'");
            answered.appendReplacement(out, Matcher.quoteReplacement(
                "ReadmeTest.look(\"" + shown + "\", " + call + ", " + answered.group(2) + ");"));
        }
        return answered.appendTail(out).toString();
    }

    private static void examples(String readme) throws Exception {
        at("README.md: the examples");
        Path room = Files.createTempDirectory("readme");
        Path source = room.resolve("Examples.java");
        Files.writeString(source, program(readme));
        JavaCompiler compiler = ToolProvider.getSystemJavaCompiler();
        String classes = System.getProperty("java.class.path");
        due("compiled", compiler.run(null, null, null, "-d", room.toString(), "-cp", classes, source.toString()), 0);
        try (URLClassLoader loader = new URLClassLoader(new URL[] {room.toUri().toURL()})) {
            loader.loadClass("Examples").getMethod("examples").invoke(null);
        }
        for (File file : room.toFile().listFiles()) {
            Files.delete(file.toPath());
        }
        Files.delete(room);
        due("there are examples", answers > 20, true);
    }

    public static void look(String call, int got, int want) {
        due(call, got, want);
    }

    public static void look(String call, boolean got, boolean want) {
        due(call, got, want);
    }

    private static void names(String readme) {
        at("README.md: what it names");
        for (Method method : SpanKinds.class.getDeclaredMethods()) {
            if (Modifier.isPublic(method.getModifiers())) {
                due(method.getName() + " is named", readme.contains("`" + method.getName() + "`"), true);
            }
        }
        File[] tests = new File("src/test/java").listFiles();
        for (File test : tests == null ? new File[0] : tests) {
            String name = test.getName().replace(".java", "");
            due(name + " is named", readme.contains("`" + name + "`"), true);
        }
    }

    public static void main(String[] args) throws Exception {
        String readme = Files.readString(Path.of("README.md"));
        examples(readme);
        names(readme);
        finish();
    }
}
