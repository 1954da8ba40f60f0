import java.io.File;
import java.io.IOException;
import java.net.URI;
import java.net.URL;
import java.net.URLClassLoader;
import java.nio.file.Files;
import java.nio.file.Path;
import java.util.ArrayList;
import java.util.List;
import java.util.regex.Matcher;
import java.util.regex.Pattern;
import javax.tools.JavaCompiler;
import javax.tools.JavaFileObject;
import javax.tools.SimpleJavaFileObject;
import javax.tools.StandardJavaFileManager;
import javax.tools.ToolProvider;

/**
 * The example of README.md: it compiles as it stands there, and each call whose comment begins with an
 * answer gives that answer.
 */
public final class ReadmeTest {
    private static final Pattern ANSWERED =
        Pattern.compile("(int \\w+ = )?(store\\.\\w+\\([^;]*\\)); +// (-?\\d+|true|false)\\b.*");
    private static final Pattern EXAMPLE = Pattern.compile("```java\n(.*?)```", Pattern.DOTALL);

    private static int answers = 0;
    private static int wrong = 0;

    /** Called by the class that is made of the example. */
    public static int due(String line, int got, int want) {
        answers++;
        if (got != want) {
            wrong++;
            System.out.println(line + ": answered " + got);
        }
        return got;
    }

    public static boolean due(String line, boolean got, boolean want) {
        due(line, got ? 1 : 0, want ? 1 : 0);
        return got;
    }

    private static String example() throws IOException {
        Matcher example = EXAMPLE.matcher(Files.readString(Path.of("README.md")));
        return example.find() ? example.group(1) : "";
    }

    private static String checked(String line) {
        Matcher answered = ANSWERED.matcher(line);
        if (!answered.matches()) {
            return line;
        }
        String before = answered.group(1) == null ? "" : answered.group(1);
        return before + "ReadmeTest.due(\"" + line + "\", " + answered.group(2) + ", " + answered.group(3) + ");";
    }

    private static String program(String example) {
        List<String> lines = new ArrayList<>();
        lines.add("public final class Example { public static void run() {");
        for (String line : example.split("\n")) {
            lines.add(checked(line));
        }
        lines.add("} }");
        return String.join("\n", lines);
    }

    private static boolean compiles(String text, File to) throws IOException {
        JavaFileObject source =
            new SimpleJavaFileObject(URI.create("string:///Example.java"), JavaFileObject.Kind.SOURCE) {
                @Override
                public CharSequence getCharContent(boolean ignoreErrors) {
                    return text;
                }
            };
        JavaCompiler compiler = ToolProvider.getSystemJavaCompiler();
        try (StandardJavaFileManager files = compiler.getStandardFileManager(null, null, null)) {
            List<String> options = List.of("-d", to.getPath(), "-cp", System.getProperty("java.class.path"));
            return compiler.getTask(null, files, null, options, null, List.of(source)).call();
        }
    }

    private static void run(File folder) throws ReflectiveOperationException, IOException {
        try (URLClassLoader loader = new URLClassLoader(new URL[] {folder.toURI().toURL()})) {
            loader.loadClass("Example").getMethod("run").invoke(null);
        }
    }

    public static void main(String[] args) throws ReflectiveOperationException, IOException {
        Path folder = Files.createTempDirectory("readme");
        // What is named last is deleted first, so the folder is empty when its turn comes.
        folder.toFile().deleteOnExit();
        folder.resolve("Example.class").toFile().deleteOnExit();
        String example = example();
        // Each call but erase, which answers nothing, stands there with its answer.
        long calls = example.lines().filter(line -> line.contains("store.") && !line.contains("erase")).count();
        if (compiles(program(example), folder.toFile())) {
            run(folder.toFile());
        }
        if (answers == 0 || answers != calls) {
            wrong++;
            System.out.println("README.md: " + answers + " answers were looked at, of " + calls + " calls");
        }
        System.out.println(wrong == 0 ? "the example is as due" : wrong + " things are not as due");
        if (wrong != 0) {
            System.exit(1);
        }
    }
}
