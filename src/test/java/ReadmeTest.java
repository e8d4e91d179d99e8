import java.io.ByteArrayOutputStream;
import java.io.PrintStream;
import java.lang.reflect.Method;
import java.lang.reflect.Modifier;
import java.net.URL;
import java.net.URLClassLoader;
import java.nio.file.Files;
import java.nio.file.Path;
import java.util.regex.Matcher;
import java.util.regex.Pattern;
import java.util.stream.Stream;
import javax.tools.ToolProvider;

/** README.md: its example compiles and prints what it says, and it names every call, test and class. */
public final class ReadmeTest {
    public static void main(String[] args) throws Exception {
        String readme = Files.readString(Path.of("README.md")).replace("\r", "");
        Check.due("the example prints what README.md says",
            printed(block(readme, "java")).equals(block(readme, "text")), true);
        Check.due("it says how the tests are run", readme.contains(".ci/run"), true);
        for (Method method : TypedEngine.class.getDeclaredMethods()) {
            if (Modifier.isPublic(method.getModifiers())) {
                Check.due("it tells of " + method.getName(), readme.contains("| `" + method.getName() + "("), true);
            }
        }
        for (Class<?> inside : TypedEngine.class.getDeclaredClasses()) {
            Check.due("it tells of " + inside.getSimpleName(), readme.contains("`" + inside.getSimpleName() + "`"), true);
        }
        try (Stream<Path> files = Files.list(Path.of("src", "test", "java"))) {
            for (Path file : files.toList()) {
                String name = file.getFileName().toString().replace(".java", "");
                Check.due("it tells of " + name,
                    !name.endsWith("Test") || readme.contains("`" + name + "`"), true);
            }
        }
        Check.finish("ReadmeTest");
    }

    private static String block(String readme, String language) {
        Matcher found = Pattern.compile("(?s)```" + language + "\n(.*?)```").matcher(readme);
        return found.find() ? found.group(1) : "there is no block of " + language;
    }

    private static String printed(String lines) throws Exception {
        Path place = Files.createTempDirectory("readme");
        Path source = place.resolve("Example.java");
        Path made = place.resolve("Example.class");
        ByteArrayOutputStream out = new ByteArrayOutputStream();
        PrintStream before = System.out;
        try {
            Files.writeString(source, "public final class Example { public static void main(String[] args) {\n"
                + lines + "} }\n");
            String path = System.getProperty("java.class.path");
            int code = ToolProvider.getSystemJavaCompiler().run(null, null, null, "-cp", path, "-d", place.toString(),
                source.toString());
            Check.due("the example compiles", code, 0);
            if (code == 0) {
                System.setOut(new PrintStream(out, true));
                run(place);
            }
        } finally {
            System.setOut(before);
            Files.deleteIfExists(made);
            Files.deleteIfExists(source);
            Files.deleteIfExists(place);
        }
        return out.toString().replace("\r", "");
    }

    private static void run(Path place) throws Exception {
        try (URLClassLoader loader = new URLClassLoader(new URL[] {place.toUri().toURL()})) {
            loader.loadClass("Example").getMethod("main", String[].class).invoke(null, (Object) new String[0]);
        }
    }
}
