import java.io.ByteArrayOutputStream;
import java.io.IOException;
import java.io.PrintStream;
import java.net.URL;
import java.net.URLClassLoader;
import java.nio.file.Files;
import java.nio.file.Path;
import java.util.ArrayList;
import java.util.Comparator;
import java.util.List;
import java.util.stream.Stream;
import javax.tools.ToolProvider;

/** The example of README.md: it compiles, runs, and prints what stands behind its lines. */
public final class ExampleTest {
    private static final String PRINTS = "System.out.println(";
    private static final String BEHIND = "); // ";

    private ExampleTest() {
    }

    public static void main(String[] args) throws IOException, ReflectiveOperationException {
        String example = example(Files.readString(Path.of("README.md")));
        List<String> due = written(example);
        Checks.due("the example tells its answers", due.size() > 20, true);
        Path folder = Files.createTempDirectory("example");
        try {
            Checks.due("what the example prints", printed(folder, example), due);
        } finally {
            remove(folder);
        }
        Checks.close("ExampleTest");
    }

    private static String example(String readme) {
        String fence = "```java\n";
        int begin = readme.indexOf(fence) + fence.length();
        return readme.substring(begin, readme.indexOf("```", begin));
    }

    private static List<String> written(String example) {
        List<String> answers = new ArrayList<>();
        for (String line : example.split("\n")) {
            int behind = line.indexOf(BEHIND);
            if (line.strip().startsWith(PRINTS) && behind >= 0) {
                answers.add(line.substring(behind + BEHIND.length()));
            }
        }
        return answers;
    }

    private static List<String> printed(Path folder, String example) throws IOException, ReflectiveOperationException {
        Path file = Files.writeString(folder.resolve("Example.java"), example);
        String classes = System.getProperty("java.class.path");
        int wrong = ToolProvider.getSystemJavaCompiler().run(null, null, null, "-cp", classes, "-d", folder.toString(),
                file.toString());
        Checks.due("the example does not compile", wrong, 0);
        ByteArrayOutputStream heard = new ByteArrayOutputStream();
        PrintStream before = System.out;
        try (URLClassLoader loader = new URLClassLoader(new URL[] {folder.toUri().toURL()})) {
            System.setOut(new PrintStream(heard, true));
            loader.loadClass("Example").getMethod("main", String[].class).invoke(null, (Object) new String[0]);
        } finally {
            System.setOut(before);
        }
        return heard.toString().lines().toList();
    }

    private static void remove(Path folder) throws IOException {
        try (Stream<Path> all = Files.walk(folder)) {
            for (Path path : all.sorted(Comparator.reverseOrder()).toList()) {
                Files.delete(path);
            }
        }
    }
}
