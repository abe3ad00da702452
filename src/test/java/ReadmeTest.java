import java.io.ByteArrayOutputStream;
import java.io.IOException;
import java.io.PrintStream;
import java.net.URL;
import java.net.URLClassLoader;
import java.nio.file.Files;
import java.nio.file.Path;
import java.util.ArrayList;
import java.util.List;
import java.util.regex.Matcher;
import java.util.regex.Pattern;
import javax.tools.ToolProvider;

/** The README's example, compiled and run as it stands: it prints what its comments say. */
public final class ReadmeTest extends Checks {
    public static void main(String[] args) throws Exception {
        says("## The public face");
        String example = exampleOf(Files.readString(Path.of("README.md")));
        List<String> due = new ArrayList<>();
        Matcher m = Pattern.compile("println\\(.*\\); // (\\w+)").matcher(example);
        while (m.find()) {
            due.add(m.group(1));
        }
        same("printed", String.join("\n", printed(example)), String.join("\n", due));
        due("answers told by the example", due.size(), 12);
        end();
    }

    private static String exampleOf(String readme) {
        Matcher m = Pattern.compile("```java\n(.*?)```", Pattern.DOTALL).matcher(readme);
        return m.find() ? m.group(1) : "";
    }

    private static List<String> printed(String example) throws Exception {
        Path folder = Files.createTempDirectory("readme");
        PrintStream out = System.out;
        try {
            Path source = Files.writeString(folder.resolve("Example.java"), example);
            int failed = ToolProvider.getSystemJavaCompiler().run(null, null, null, "-d", folder.toString(),
                    "src/main/java/CakeCards.java", source.toString());
            if (failed != 0) {
                return List.of("not compiled");
            }
            ByteArrayOutputStream bytes = new ByteArrayOutputStream();
            System.setOut(new PrintStream(bytes, true));
            // With no parent but the library's own: the example sees the class that was compiled with it.
            ClassLoader library = ClassLoader.getPlatformClassLoader();
            try (URLClassLoader loader = new URLClassLoader(new URL[] {folder.toUri().toURL()}, library)) {
                loader.loadClass("Example").getMethod("main", String[].class).invoke(null, (Object) new String[0]);
            }
            return bytes.toString().lines().toList();
        } finally {
            System.setOut(out);
            remove(folder);
        }
    }

    private static void remove(Path folder) throws IOException {
        List<Path> all;
        try (var files = Files.list(folder)) {
            all = files.toList();
        }
        for (Path file : all) {
            Files.delete(file);
        }
        Files.delete(folder);
    }
}
