import java.io.ByteArrayOutputStream;
import java.io.IOException;
import java.io.PrintStream;
import java.lang.reflect.Method;
import java.lang.reflect.Modifier;
import java.net.URL;
import java.net.URLClassLoader;
import java.nio.file.Files;
import java.nio.file.Path;
import java.util.Arrays;
import java.util.stream.Collectors;

/** README.md names every call, and its example prints what it says; run from the project's folder. */
final class ReadmeTest {
    public static void main(String[] args) throws Exception {
        String readme = Files.readString(Path.of("README.md"));
        namesEveryCall(readme);
        namesEveryTest(readme);
        String printed = run(block(readme, "java"));
        Check.due("the example", printed, block(readme, "text"));
        Check.end();
    }

    private static void namesEveryCall(String readme) {
        Check.due("README has a row for the constructor", readme.contains("\n| `MateProblems()` | "), true);
        for (Method method : MateProblems.class.getDeclaredMethods()) {
            if (Modifier.isPublic(method.getModifiers())) {
                String parameters = Arrays.stream(method.getParameterTypes())
                        .map(type -> type.getSimpleName() + " \\w+").collect(Collectors.joining(", "));
                String row = "(?s).*\n\\| `" + method.getReturnType() + " " + method.getName()
                        + "\\(" + parameters + "\\)` \\| .*";
                Check.due("README has a row for " + method.getName(), readme.matches(row), true);
            }
        }
    }

    private static void namesEveryTest(String readme) throws IOException {
        try (var files = Files.list(Path.of("src/test/java"))) {
            for (Path file : files.toList()) {
                String name = file.getFileName().toString().replace(".java", "");
                if (name.endsWith("Test")) {
                    Check.due("README has a row for " + name, readme.contains("\n| `" + name + "` | "), true);
                }
            }
        }
    }

    /** The first block of code of that language. */
    private static String block(String readme, String language) {
        String mark = "```" + language + "\n";
        int from = readme.indexOf(mark) + mark.length();
        return readme.substring(from, readme.indexOf("```", from));
    }

    /** What the example prints. */
    private static String run(String example) throws Exception {
        Path folder = Files.createTempDirectory("readme");
        Path source = folder.resolve("Example.java");
        Files.writeString(source, example);
        Process compiler = new ProcessBuilder("javac", "-d", folder.toString(),
                "-cp", System.getProperty("java.class.path"), source.toString()).inheritIO().start();
        Check.due("compiling the example", compiler.waitFor(), 0);
        PrintStream before = System.out;
        ByteArrayOutputStream printed = new ByteArrayOutputStream();
        try (URLClassLoader loader = new URLClassLoader(new URL[] {folder.toUri().toURL()})) {
            Class<?> made = loader.loadClass("Example");
            System.setOut(new PrintStream(printed, true));
            made.getMethod("main", String[].class).invoke(null, (Object) new String[0]);
        } finally {
            System.setOut(before);
        }
        for (String name : new String[] {"Example.java", "Example.class"}) {
            Files.deleteIfExists(folder.resolve(name));
        }
        Files.deleteIfExists(folder);
        return printed.toString().replace("\r\n", "\n");
    }
}
