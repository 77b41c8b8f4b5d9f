import java.io.IOException;
import java.net.URL;
import java.net.URLClassLoader;
import java.nio.file.Files;
import java.nio.file.Path;
import java.util.List;
import java.util.regex.Matcher;
import java.util.regex.Pattern;
import javax.tools.ToolProvider;

/** The example in README.md: it compiles, and its calls answer what stands behind them. */
public final class ReadmeTest {
    private static final Pattern CALL = Pattern.compile("(\\s*)(x\\.\\w+\\(.*\\));\\s*(?:// (-?\\d+)\\b.*)?");

    private static int calls = 0;

    public static void main(String[] args) throws Exception {
        Path folder = Files.createTempDirectory("readme");
        Path source = folder.resolve("ReadmeExample.java");
        Files.writeString(source, program(Files.readAllLines(Path.of("README.md"))));
        Check.holds("the example has calls", calls > 0);
        String path = System.getProperty("java.class.path");
        int told = ToolProvider.getSystemJavaCompiler().run(null, null, null, "-cp", path, "-d", folder.toString(), source.toString());
        Check.is("javac of the example", 0, told);
        if (told == 0) {
            run(folder);
        }
        clear(folder);
        Check.finish();
    }

    private static String program(List<String> readme) {
        StringBuilder program = new StringBuilder("public final class ReadmeExample {\npublic static void run() {\n");
        boolean inside = false;
        for (String line : readme) {
            if (line.startsWith("```")) {
                inside = line.equals("```java");
            } else if (inside) {
                program.append(checked(line)).append('\n');
            }
        }
        return program.append("}\n}\n").toString();
    }

    private static String checked(String line) {
        Matcher call = CALL.matcher(line);
        if (!call.matches()) {
            return line;
        }
        calls++;
        Check.holds("an answer stands behind " + call.group(2), call.group(3) != null);
        return "Check.is(\"" + call.group(2) + "\", " + call.group(3) + "L, " + call.group(2) + ");";
    }

    private static void run(Path folder) throws Exception {
        try (URLClassLoader loader = new URLClassLoader(new URL[] {folder.toUri().toURL()})) {
            loader.loadClass("ReadmeExample").getMethod("run").invoke(null);
        }
    }

    private static void clear(Path folder) throws IOException {
        try (var files = Files.list(folder)) {
            for (Path file : files.toList()) {
                Files.delete(file);
            }
        }
        Files.delete(folder);
    }
}
