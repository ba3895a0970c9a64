import java.io.IOException;
import java.net.URL;
import java.net.URLClassLoader;
import java.nio.file.Files;
import java.nio.file.Path;
import java.util.ArrayList;
import java.util.List;
import java.util.TreeSet;
import java.util.regex.Matcher;
import java.util.regex.Pattern;
import javax.tools.ToolProvider;

/** Compiles the examples of README.md as they stand there, and asks them for the answers behind them. */
public final class ReadmeTest {
    private static final Pattern EXAMPLE = Pattern.compile("(x\\.(\\w+)\\(.*\\)|tell\\(.*\\)); *// (-?\\d+)(:.*)?");
    private static final int CALLS_OF_THE_FACE = 32;

    private static final Check check = new Check();
    private static final TreeSet<String> shown = new TreeSet<>();

    public static void main(String[] args) throws Exception {
        String program = programOf(blocks(Project.lines("README.md")));
        run(program);
        check.due("calls of the face in README.md " + shown, shown.size(), CALLS_OF_THE_FACE);
        check.finish("ReadmeTest");
    }

    /** What the program that is made from the page calls for each example. */
    public static void due(String example, long got, long want) {
        check.due("README.md: " + example, got, want);
    }

    private static List<List<String>> blocks(List<String> lines) {
        List<List<String>> found = new ArrayList<>();
        List<String> block = null;
        for (String line : lines) {
            if (line.equals("```java")) {
                block = new ArrayList<>();
                found.add(block);
            } else if (line.equals("```")) {
                block = null;
            } else if (block != null) {
                block.add(line);
            }
        }
        return found;
    }

    /** Methods stand beside main, all other blocks within it. */
    private static String programOf(List<List<String>> blocks) {
        StringBuilder methods = new StringBuilder();
        StringBuilder body = new StringBuilder();
        for (List<String> block : blocks) {
            if (block.get(0).startsWith("static ")) {
                methods.append(String.join("\n", block)).append('\n');
                continue;
            }
            body.append("{\n");
            for (String line : block) {
                body.append(asked(line)).append('\n');
            }
            body.append("}\n");
        }
        return "public final class ReadmeExamples {\n" + methods + "public static void main(String[] args) {\n"
            + body + "}\n}\n";
    }

    private static String asked(String line) {
        Matcher example = EXAMPLE.matcher(line);
        if (!example.matches()) {
            return line;
        }
        shown.add(example.group(2) == null ? "text" : example.group(2));
        String told = line.replace("\\", "\\\\").replace("\"", "\\\"");
        return "ReadmeTest.due(\"" + told + "\", " + example.group(1) + ", " + example.group(3) + "L);";
    }

    private static void run(String program) throws Exception {
        Path folder = Files.createTempDirectory("readme");
        Path source = folder.resolve("ReadmeExamples.java");
        Files.writeString(source, program);
        int compiled = ToolProvider.getSystemJavaCompiler().run(null, null, null, "-encoding", "UTF-8",
            "-cp", System.getProperty("java.class.path"), "-d", folder.toString(), source.toString());
        check.due("compiling the examples of README.md", compiled, 0);
        if (compiled == 0) {
            try (URLClassLoader loader = new URLClassLoader(new URL[] {folder.toUri().toURL()})) {
                loader.loadClass("ReadmeExamples").getMethod("main", String[].class).invoke(null, (Object) new String[0]);
            }
        }
        remove(folder);
    }

    private static void remove(Path folder) throws IOException {
        try (var files = Files.list(folder)) {
            for (Path file : files.toList()) {
                Files.delete(file);
            }
        }
        Files.delete(folder);
    }
}
