import java.io.File;
import java.net.URL;
import java.net.URLClassLoader;
import java.nio.file.Files;
import java.nio.file.Path;
import java.util.regex.Matcher;
import java.util.regex.Pattern;
import javax.tools.ToolProvider;

/** README.md's example compiles, and each call answers what stands behind it. */
public final class ReadmeTest {
    private static final Pattern BLOCK = Pattern.compile("```java\n(.*?)```", Pattern.DOTALL);
    private static final Pattern CALL = Pattern.compile("((?:x\\.\\w+|tell)\\(.*\\)); *// (-?\\d+|true|false):.*");
    private static final int CALLS_LEAST = 25;

    public static void main(String[] args) throws Exception {
        Matcher blocks = BLOCK.matcher(Files.readString(Path.of("README.md")));
        boolean hasHelp = blocks.find();
        String help = hasHelp ? blocks.group(1) : "";
        boolean hasExample = blocks.find();
        Due.yes("README.md has an example", hasExample);
        if (hasExample) {
            compileAndRun(sourceOf(help, blocks.group(1)));
        }
        Due.close();
    }

    private static String sourceOf(String help, String example) {
        StringBuilder source = new StringBuilder("public final class ReadmeExample {\n");
        source.append(help).append("public static void run() {\n");
        int calls = 0;
        for (String line : example.split("\n")) {
            Matcher m = CALL.matcher(line);
            if (m.matches()) {
                calls++;
                source.append("ReadmeTest.due(\"").append(m.group(1).replace('"', '\'')).append("\", ");
                source.append(m.group(1)).append(", ").append(m.group(2)).append(");\n");
            } else {
                Due.no("a call without its answer: " + line, line.startsWith("x.") || line.startsWith("tell"));
                source.append(line).append('\n');
            }
        }
        Due.yes("the example has its calls", calls >= CALLS_LEAST);
        return source.append("}\n}\n").toString();
    }

    /** For the example, which is loaded on its own and so sees public methods alone. */
    public static void due(String what, int got, int want) {
        Due.is(what, got, want);
    }

    public static void due(String what, boolean got, boolean want) {
        Due.is(what, got ? 1 : 0, want ? 1 : 0);
    }

    private static void compileAndRun(String source) throws Exception {
        Path dir = Files.createTempDirectory("readme");
        Path file = dir.resolve("ReadmeExample.java");
        Files.writeString(file, source);
        String path = System.getProperty("java.class.path");
        int code = ToolProvider.getSystemJavaCompiler().run(null, null, null, "-cp", path, "-d", dir.toString(), file.toString());
        Due.is("the example's compiling", code, 0);
        if (code == 0) {
            try (URLClassLoader loader = new URLClassLoader(new URL[] {dir.toUri().toURL()})) {
                loader.loadClass("ReadmeExample").getMethod("run").invoke(null);
            }
        }
        for (File left : dir.toFile().listFiles()) {
            left.delete();
        }
        Files.delete(dir);
    }
}
