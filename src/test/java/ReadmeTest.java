import java.io.ByteArrayOutputStream;
import java.io.IOException;
import java.io.PrintStream;
import java.net.URL;
import java.net.URLClassLoader;
import java.nio.file.Files;
import java.nio.file.Path;
import java.util.Comparator;
import java.util.List;
import java.util.stream.Collectors;
import java.util.stream.Stream;
import javax.tools.ToolProvider;

/** The README's example compiles and prints what is said there, and all calls of the face are named; run from the project's folder. */
public final class ReadmeTest {
    private static final Checks CHECKS = new Checks("ReadmeTest");

    private ReadmeTest() {
    }

    public static void main(String[] args) throws IOException, ReflectiveOperationException {
        String text = Files.readString(Path.of("README.md"));
        Path folder = Files.createTempDirectory("readme");
        try {
            CHECKS.due("what the example prints", run(block(text, "java"), folder), block(text, "text"));
        } finally {
            remove(folder);
        }
        for (String call : new Document().calls()) {
            CHECKS.due(call + " is named", text.contains("`" + call + "`"), true);
        }
        CHECKS.due("how to run the tests", text.contains(".ci/run"), true);
        CHECKS.end();
    }

    private static String block(String text, String sort) {
        String begin = "```" + sort + "\n";
        int from = text.indexOf(begin) + begin.length();
        return text.substring(from, text.indexOf("```", from));
    }

    private static String run(String program, Path folder) throws IOException, ReflectiveOperationException {
        Path file = folder.resolve("Example.java");
        Files.writeString(file, program);
        String path = System.getProperty("java.class.path");
        int failed = ToolProvider.getSystemJavaCompiler().run(null, null, null, "-cp", path, "-d", folder.toString(), file.toString());
        if (failed != 0) {
            return "it doesn't compile";
        }
        PrintStream usual = System.out;
        ByteArrayOutputStream printed = new ByteArrayOutputStream();
        try (URLClassLoader loader = new URLClassLoader(new URL[] {folder.toUri().toURL()})) {
            System.setOut(new PrintStream(printed, true));
            loader.loadClass("Example").getMethod("main", String[].class).invoke(null, (Object) new String[0]);
        } finally {
            System.setOut(usual);
        }
        return printed.toString().replace("\r\n", "\n");
    }

    private static void remove(Path folder) throws IOException {
        List<Path> all;
        try (Stream<Path> walk = Files.walk(folder)) {
            all = walk.sorted(Comparator.reverseOrder()).collect(Collectors.toList());
        }
        for (Path path : all) {
            Files.delete(path);
        }
    }
}
