import java.net.URL;
import java.net.URLClassLoader;
import java.nio.file.Files;
import java.nio.file.Path;
import java.util.ArrayList;
import java.util.List;
import java.util.regex.Matcher;
import java.util.regex.Pattern;
import javax.tools.ToolProvider;

/** The Java examples of README.md, one behind the other in one run: each call answers what its comment says. */
public final class ReadmeTest {
    private static final Pattern EXAMPLE = Pattern.compile("(plain\\.\\w+\\(.*\\));\\s*// (-?\\d+): .+");
    private static final Pattern METHOD = Pattern.compile("`([a-z]+)`");

    private static int examples = 0;
    private static int wrong = 0;

    /** Called by the class that is made of the examples, too. */
    public static void due(String call, long got, long want) {
        if (got != want) {
            wrong++;
            System.out.println("readme: " + call + " answered " + got + ", due is " + want);
        }
    }

    public static void main(String[] args) throws Exception {
        String text = Files.readString(Path.of("README.md"));
        checkTables(text);
        Path folder = Files.createTempDirectory("readme");
        Path source = folder.resolve("ReadmeExamples.java");
        Files.writeString(source, sourceOf(text));
        try {
            runExamples(folder, source);
        } finally {
            Files.deleteIfExists(folder.resolve("ReadmeExamples.class"));
            Files.deleteIfExists(source);
            Files.deleteIfExists(folder);
        }
        due("whether there are examples", Math.min(1, examples), 1);
        System.out.println(wrong == 0 ? "the readme's " + examples + " examples hold" : wrong + " of the readme's examples do not hold");
        if (wrong != 0) {
            System.exit(1);
        }
    }

    /** Every method of the class stands in the readme. */
    private static void checkTables(String text) {
        List<String> named = new ArrayList<>();
        for (Matcher m = METHOD.matcher(text); m.find(); ) {
            named.add(m.group(1));
        }
        for (java.lang.reflect.Method method : ShadowHerds.class.getMethods()) {
            if (method.getDeclaringClass() == ShadowHerds.class) {
                due("whether the readme names " + method.getName(), named.contains(method.getName()) ? 1 : 0, 1);
            }
        }
    }

    private static String sourceOf(String text) {
        StringBuilder members = new StringBuilder();
        StringBuilder calls = new StringBuilder();
        for (Matcher m = Pattern.compile("(?s)```java\\n(.*?)```").matcher(text); m.find(); ) {
            String block = m.group(1);
            if (block.startsWith("static ")) {
                members.append(block);
            } else {
                for (String line : block.split("\n")) {
                    calls.append(checked(line)).append('\n');
                }
            }
        }
        return "public final class ReadmeExamples {\n" + members + "public static void run() {\n" + calls + "}\n}\n";
    }

    private static String checked(String line) {
        Matcher example = EXAMPLE.matcher(line);
        if (!example.matches()) {
            due("whether the answer of \"" + line + "\" can be read", line.contains("//") ? 0 : 1, 1);
            return line;
        }
        examples++;
        String call = example.group(1);
        return "ReadmeTest.due(\"" + call.replace("\"", "\\\"") + "\", " + call + ", " + example.group(2) + ");";
    }

    private static void runExamples(Path folder, Path source) throws Exception {
        int errors = ToolProvider.getSystemJavaCompiler().run(null, System.out, System.out,
            "-cp", System.getProperty("java.class.path"), "-d", folder.toString(), source.toString());
        due("whether the examples compile", errors == 0 ? 1 : 0, 1);
        if (errors == 0) {
            try (URLClassLoader loader = new URLClassLoader(new URL[] {folder.toUri().toURL()}, ReadmeTest.class.getClassLoader())) {
                loader.loadClass("ReadmeExamples").getMethod("run").invoke(null);
            }
        }
    }
}
