import java.io.ByteArrayOutputStream;
import java.io.IOException;
import java.io.PrintStream;
import java.lang.reflect.Field;
import java.lang.reflect.Method;
import java.lang.reflect.Modifier;
import java.net.URL;
import java.net.URLClassLoader;
import java.nio.charset.StandardCharsets;
import java.nio.file.DirectoryStream;
import java.nio.file.Files;
import java.nio.file.Path;
import java.util.Set;
import java.util.TreeSet;
import java.util.regex.Matcher;
import java.util.regex.Pattern;
import javax.tools.ToolProvider;

/** README.md: it names the whole face and every test, and its examples print what it says they print. */
public final class ReadmeTest {
    private static final Path ROOT = Path.of(System.getProperty("draughts.root", "."));
    private static final Pattern EXAMPLE = Pattern.compile("```java\n(.*?)```\n\n```text\n(.*?)```\n", Pattern.DOTALL);
    private static final Pattern TEST_NAME = Pattern.compile("^\\| `(\\w+Test)` \\|", Pattern.MULTILINE);

    public static void main(String[] args) throws Exception {
        String readme = Files.readString(ROOT.resolve("README.md"));
        namesTheWholeFace(readme);
        namesEveryTest(readme);
        Due.yes("README.md tells how to run the tests", readme.contains("\n.ci/run\n"));
        examplesPrintWhatTheySay(readme);
        Due.finish();
    }

    private static void namesTheWholeFace(String readme) {
        for (Method method : DraughtsEngine.class.getDeclaredMethods()) {
            if (Modifier.isPublic(method.getModifiers())) {
                boolean named = Pattern.compile("`" + method.getName() + "\\([^`]*\\)` \\|").matcher(readme).find();
                Due.yes("README.md has a row for " + method.getName() + "()", named);
            }
        }
        for (Field field : DraughtsEngine.class.getDeclaredFields()) {
            if (Modifier.isPublic(field.getModifiers())) {
                Due.yes("README.md names " + field.getName(), readme.contains("`" + field.getName() + "`"));
            }
        }
    }

    private static void namesEveryTest(String readme) throws IOException {
        Set<String> named = new TreeSet<>();
        Matcher names = TEST_NAME.matcher(readme);
        while (names.find()) {
            named.add(names.group(1));
        }
        Set<String> present = new TreeSet<>();
        try (DirectoryStream<Path> tests = Files.newDirectoryStream(ROOT.resolve("src/test/java"), "*Test.java")) {
            for (Path test : tests) {
                present.add(test.getFileName().toString().replace(".java", ""));
            }
        }
        Due.yes("README.md names the tests " + present + ", not " + named, named.equals(present));
    }

    private static void examplesPrintWhatTheySay(String readme) throws Exception {
        int blocks = readme.split("```java\n", -1).length - 1;
        int examples = 0;
        Matcher example = EXAMPLE.matcher(readme);
        while (example.find()) {
            examples++;
            String printed = run(example.group(1));
            boolean same = printed.equals(example.group(2));
            Due.yes("example " + examples + " of README.md prints\n" + example.group(2) + "and not\n" + printed + "which", same);
        }
        Due.yes("README.md has an example", examples > 0);
        Due.is("examples of README.md that tell what they print", examples, blocks);
    }

    /** Compiles the example, a whole class, beside the engine's, and answers what its main method prints. */
    private static String run(String source) throws Exception {
        Matcher name = Pattern.compile("public final class (\\w+)").matcher(source);
        if (!name.find()) {
            return "no public final class\n";
        }
        Path folder = Files.createTempDirectory("readme");
        Path file = folder.resolve(name.group(1) + ".java");
        Files.writeString(file, source);
        String path = System.getProperty("java.class.path");
        ByteArrayOutputStream faults = new ByteArrayOutputStream();
        int refused = ToolProvider.getSystemJavaCompiler()
                .run(null, faults, faults, "-cp", path, "-d", folder.toString(), file.toString());
        String printed = refused == 0 ? runMain(folder, name.group(1)) : faults.toString(StandardCharsets.UTF_8);
        Files.deleteIfExists(folder.resolve(name.group(1) + ".class"));
        Files.delete(file);
        Files.deleteIfExists(folder);
        return printed;
    }

    private static String runMain(Path folder, String name) throws Exception {
        ByteArrayOutputStream printed = new ByteArrayOutputStream();
        PrintStream screen = System.out;
        try (URLClassLoader loader = new URLClassLoader(new URL[] {folder.toUri().toURL()})) {
            System.setOut(new PrintStream(printed, true, StandardCharsets.UTF_8));
            loader.loadClass(name).getMethod("main", String[].class).invoke(null, (Object) new String[0]);
        } finally {
            System.setOut(screen);
        }
        return printed.toString(StandardCharsets.UTF_8).replace(System.lineSeparator(), "\n");
    }
}
