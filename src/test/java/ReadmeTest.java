import java.io.ByteArrayOutputStream;
import java.io.IOException;
import java.io.PrintStream;
import java.net.URL;
import java.net.URLClassLoader;
import java.nio.charset.StandardCharsets;
import java.nio.file.Files;
import java.nio.file.Path;
import java.util.ArrayList;
import java.util.List;
import java.util.stream.Stream;
import javax.tools.JavaCompiler;
import javax.tools.ToolProvider;

/** README.md: its example runs as it stands, with the answers that stand in it, and it names every test. */
public final class ReadmeTest {
    private static final String NAME = "Example";
    private static final String PRINTS = "System.out.println(";

    public static void main(String[] args) throws Exception {
        String readme = Files.readString(Path.of("README.md"));
        List<String> example = block(readme, "java");
        List<String> due = answers(example);
        Due.yes("the example has answers", !due.isEmpty());
        Due.same("the example", String.join(" / ", printed(example)), String.join(" / ", due));
        Due.same("how to run the tests", String.join(" / ", block(readme, "sh")), ".ci/run");
        namesEveryTest(readme);
        Due.end();
    }

    /** The lines of the first block of a language. */
    private static List<String> block(String readme, String language) {
        List<String> lines = new ArrayList<>();
        boolean inside = false;
        for (String line : readme.split("\n")) {
            if (inside && line.equals("```")) {
                return lines;
            }
            if (inside) {
                lines.add(line);
            }
            inside = inside || line.equals("```" + language);
        }
        Due.tell("README.md has no block of " + language);
        return lines;
    }

    /** What stands behind the lines that print. */
    private static List<String> answers(List<String> example) {
        List<String> answers = new ArrayList<>();
        for (String line : example) {
            if (line.contains(PRINTS)) {
                int at = line.indexOf("// ");
                Due.yes("an answer behind " + line.trim(), at >= 0);
                answers.add(at < 0 ? "" : line.substring(at + 3).trim());
            }
        }
        return answers;
    }

    /** What the example prints when it is compiled and run, not a letter of it changed. */
    private static List<String> printed(List<String> example) throws Exception {
        Path folder = Files.createTempDirectory("readme");
        Path source = folder.resolve(NAME + ".java");
        try {
            Files.write(source, example);
            JavaCompiler compiler = ToolProvider.getSystemJavaCompiler();
            int code = compiler.run(null, null, null, "--release", "17", "-Xlint:all", "-Werror",
                    "-cp", System.getProperty("java.class.path"), "-d", folder.toString(), source.toString());
            Due.same("the example's compilation", code, 0);
            return code == 0 ? run(folder) : List.of();
        } finally {
            Files.deleteIfExists(source);
            Files.deleteIfExists(folder.resolve(NAME + ".class"));
            Files.deleteIfExists(folder);
        }
    }

    private static List<String> run(Path folder) throws Exception {
        PrintStream before = System.out;
        ByteArrayOutputStream bytes = new ByteArrayOutputStream();
        try (URLClassLoader loader = new URLClassLoader(new URL[] {folder.toUri().toURL()})) {
            System.setOut(new PrintStream(bytes, true, StandardCharsets.UTF_8));
            loader.loadClass(NAME).getMethod("main", String[].class).invoke(null, (Object) new String[0]);
        } finally {
            System.setOut(before);
        }
        return bytes.toString(StandardCharsets.UTF_8).lines().toList();
    }

    private static void namesEveryTest(String readme) throws IOException {
        try (Stream<Path> files = Files.list(Path.of("src/test/java"))) {
            for (Path file : files.toList()) {
                String name = file.getFileName().toString().replace(".java", "");
                if (name.endsWith("Test")) {
                    Due.yes(name + " stands in README.md", readme.contains("| `" + name + "` |"));
                }
            }
        }
    }
}
