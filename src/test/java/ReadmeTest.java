import java.io.ByteArrayOutputStream;
import java.io.IOException;
import java.io.PrintStream;
import java.lang.reflect.Method;
import java.lang.reflect.Modifier;
import java.net.URL;
import java.net.URLClassLoader;
import java.nio.charset.StandardCharsets;
import java.nio.file.Files;
import java.nio.file.Path;
import java.util.List;
import java.util.Set;
import java.util.TreeSet;
import java.util.regex.Matcher;
import java.util.regex.Pattern;
import java.util.stream.Stream;
import javax.tools.ToolProvider;

/** README.md: its example compiles and prints what it says, and it names every call, every test and .ci/run. */
final class ReadmeTest {
    private ReadmeTest() {
    }

    public static void main(String[] args) throws Exception {
        String readme = Files.readString(Path.of("README.md"));
        Check.same("what the example prints", printed(block(readme, "java")), block(readme, "text"));
        for (Method method : MapFramer.class.getDeclaredMethods()) {
            if (Modifier.isPublic(method.getModifiers())) {
                Check.same(method.getName() + " is named", readme.contains("`" + method.getName() + "("), true);
            }
        }
        Check.same("the tests that are named", named(readme), tests());
        Check.same("it says how tests are run", readme.contains("`.ci/run`"), true);
        Check.end("ReadmeTest");
    }

    private static String block(String readme, String language) {
        Matcher found = Pattern.compile("```" + language + "\n(.*?)```", Pattern.DOTALL).matcher(readme);
        return found.find() ? found.group(1) : "no block of " + language;
    }

    private static String printed(String example) throws Exception {
        Path folder = Files.createTempDirectory("readme");
        Path source = Files.writeString(folder.resolve("Example.java"), example);
        // the last one told is the first one to go
        for (Path left : List.of(folder, source, folder.resolve("Example.class"))) {
            left.toFile().deleteOnExit();
        }
        int failed = ToolProvider.getSystemJavaCompiler().run(null, null, null, "-Xlint:all", "-Werror", "-d",
            folder.toString(), "-cp", System.getProperty("java.class.path"), source.toString());
        if (failed != 0) {
            return "it does not compile";
        }
        PrintStream out = System.out;
        ByteArrayOutputStream kept = new ByteArrayOutputStream();
        try (URLClassLoader loader = new URLClassLoader(new URL[] {folder.toUri().toURL()})) {
            System.setOut(new PrintStream(kept, true, StandardCharsets.UTF_8));
            loader.loadClass("Example").getMethod("main", String[].class).invoke(null, (Object) new String[0]);
        } finally {
            System.setOut(out);
        }
        return kept.toString(StandardCharsets.UTF_8).replace(System.lineSeparator(), "\n");
    }

    private static Set<String> named(String readme) {
        Set<String> all = new TreeSet<>();
        Matcher found = Pattern.compile("^\\| `(\\w+Test)` \\|", Pattern.MULTILINE).matcher(readme);
        while (found.find()) {
            all.add(found.group(1));
        }
        return all;
    }

    private static Set<String> tests() throws IOException {
        Set<String> all = new TreeSet<>();
        try (Stream<Path> files = Files.list(Path.of("src/test/java"))) {
            files.map(file -> file.getFileName().toString()).filter(name -> name.endsWith("Test.java"))
                .forEach(name -> all.add(name.substring(0, name.length() - ".java".length())));
        }
        return all;
    }
}
