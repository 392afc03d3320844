import java.io.ByteArrayOutputStream;
import java.io.IOException;
import java.io.PrintStream;
import java.net.URL;
import java.net.URLClassLoader;
import java.nio.file.Files;
import java.nio.file.Path;
import java.util.ArrayList;
import java.util.List;
import java.util.regex.Matcher;
import java.util.regex.Pattern;
import java.util.stream.Collectors;
import java.util.stream.Stream;
import javax.tools.ToolProvider;

/** What README.md says is so: its example prints what it says, and what it names is there. */
public final class ReadmeTest {
    private static final Due DUE = new Due();
    private static final Path PROJECT = Path.of(System.getProperty("project", "."));

    public static void main(String[] args) throws Exception {
        String readme = Files.readString(PROJECT.resolve("README.md"));
        exampleIsSo(readme);
        filesAreThere(readme);
        testsAreTold(readme);
        methodsAreTold(readme);
        DUE.end();
    }

    /** What stands between fences of this language, the first of them. */
    private static String fenced(String readme, String language) {
        Matcher matcher = Pattern.compile("```" + language + "\n(.*?)```", Pattern.DOTALL).matcher(readme);
        return matcher.find() ? matcher.group(1) : "";
    }

    private static void exampleIsSo(String readme) throws Exception {
        Path work = Files.createTempDirectory("readme");
        Path source = work.resolve("Example.java");
        Files.writeString(source, fenced(readme, "java"));
        int compiled = ToolProvider.getSystemJavaCompiler().run(null, null, null, "-d", work.toString(),
                PROJECT.resolve("src/main/java/FarBoard.java").toString(), source.toString());
        DUE.same("javac of the example", compiled, 0);
        if (compiled == 0) {
            DUE.same("what the example prints", printedBy(work), fenced(readme, "text"));
        }
        List<Path> made = listed(work);
        for (int i = made.size() - 1; i >= 0; i--) {
            Files.delete(made.get(i));
        }
    }

    private static String printedBy(Path classes) throws Exception {
        PrintStream usual = System.out;
        ByteArrayOutputStream printed = new ByteArrayOutputStream();
        // The folder's own classes, not those of this test.
        try (URLClassLoader loader = new URLClassLoader(new URL[] {classes.toUri().toURL()}, null)) {
            System.setOut(new PrintStream(printed, true));
            loader.loadClass("Example").getMethod("main", String[].class).invoke(null, (Object) new String[0]);
        } finally {
            System.setOut(usual);
        }
        return printed.toString().replace("\r\n", "\n");
    }

    private static List<Path> listed(Path folder) throws IOException {
        try (Stream<Path> all = Files.walk(folder)) {
            return all.sorted().collect(Collectors.toCollection(ArrayList::new));
        }
    }

    /** Words with a / in them are paths from the project's folder. */
    private static void filesAreThere(String readme) {
        String words = readme.replace(fenced(readme, "java"), "");
        Matcher matcher = Pattern.compile("[\\w.*]*(/[\\w.*]+)+").matcher(words);
        int found = 0;
        while (matcher.find()) {
            String path = matcher.group();
            String folder = path.contains("*") ? path.substring(0, path.lastIndexOf('/')) : path;
            DUE.same("there is a " + path, Files.exists(PROJECT.resolve(folder)), true);
            found++;
        }
        DUE.same("paths are found", found > 5, true);
    }

    private static void testsAreTold(String readme) throws IOException {
        for (Path file : listed(PROJECT.resolve("src/test/java"))) {
            String name = file.getFileName().toString();
            if (name.endsWith(".java")) {
                DUE.same("it tells of " + name, readme.contains("`" + name.replace(".java", "") + "`"), true);
            }
        }
    }

    private static void methodsAreTold(String readme) {
        for (java.lang.reflect.Method method : FarBoard.class.getMethods()) {
            if (method.getDeclaringClass() == FarBoard.class) {
                DUE.same("it tells of " + method.getName(), readme.contains(method.getName()), true);
            }
        }
    }
}
