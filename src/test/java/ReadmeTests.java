import java.io.File;
import java.io.IOException;
import java.lang.reflect.Method;
import java.lang.reflect.Modifier;
import java.net.URL;
import java.net.URLClassLoader;
import java.nio.charset.StandardCharsets;
import java.nio.file.Files;
import java.nio.file.Path;
import java.util.regex.Matcher;
import java.util.regex.Pattern;
import javax.tools.JavaCompiler;
import javax.tools.ToolProvider;

/** README.md: its example is compiled and answers as it says, and no call and no test is left out. */
public final class ReadmeTests {
    private static final Pattern EXAMPLE = Pattern.compile("```java\n(.*?)```", Pattern.DOTALL);
    private static final Pattern CALL = Pattern.compile("(?m)^(x\\.\\w+\\([^)]*\\)); +// (-?\\d+):.*$");
    private static final String RUN = "ReadmeExample";

    private ReadmeTests() {
    }

    /** The example with each answer looked at. */
    private static String looking(String example) {
        StringBuilder code = new StringBuilder();
        code.append("public final class ").append(RUN).append(" {\n    public static int run() {\n        int looked = 0;\n");
        Matcher call = CALL.matcher(example);
        code.append(call.replaceAll(found -> "looked++; if (" + found.group(1) + " != " + found.group(2) + ") { return -looked; }"));
        return code.append("        return looked;\n    }\n}\n").toString();
    }

    private static void example(String page) throws IOException, ReflectiveOperationException {
        Matcher found = EXAMPLE.matcher(page);
        Check.holds("there is an example", found.find());
        String example = found.group(1);
        long calls = CALL.matcher(example).results().count();
        long told = example.lines().filter(line -> line.contains("// ")).count();
        Check.due("calls of the example that tell their answer", calls, told);
        Path place = Files.createTempDirectory("readme");
        Path source = place.resolve(RUN + ".java");
        Files.writeString(source, looking(example), StandardCharsets.UTF_8);
        JavaCompiler compiler = ToolProvider.getSystemJavaCompiler();
        String classes = System.getProperty("java.class.path");
        int result = compiler.run(null, null, null, "-d", place.toString(), "-cp", classes, source.toString());
        Check.due("compiling the example", result, 0);
        if (result == 0) {
            try (URLClassLoader loader = new URLClassLoader(new URL[] {place.toUri().toURL()}, ReadmeTests.class.getClassLoader())) {
                Method run = loader.loadClass(RUN).getMethod("run");
                Check.due("calls of the example that answer as told (below 0: the first that does not)", (int) run.invoke(null), calls);
            }
        }
        for (File file : place.toFile().listFiles()) {
            Files.delete(file.toPath());
        }
        Files.delete(place);
    }

    private static void nothingIsLeftOut(String page) {
        for (Method method : SteepleStruck.class.getDeclaredMethods()) {
            if (Modifier.isPublic(method.getModifiers())) {
                Check.holds("it names the call " + method.getName(), page.contains("`" + method.getName() + "`"));
            }
        }
        for (File file : new File("src/test/java").listFiles()) {
            String name = file.getName().replace(".java", "");
            if (name.endsWith("Tests")) {
                Check.holds("it names the test " + name, page.contains("| `" + name + "` |"));
            }
        }
        Check.holds("it tells how the tests are run", page.contains(".ci/run"));
    }

    public static void main(String[] args) throws IOException, ReflectiveOperationException {
        String page = Files.readString(Path.of("README.md"), StandardCharsets.UTF_8);
        example(page);
        nothingIsLeftOut(page);
        Check.end("ReadmeTests");
    }
}
