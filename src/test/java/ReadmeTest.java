import java.io.ByteArrayOutputStream;
import java.io.File;
import java.io.IOException;
import java.io.PrintStream;
import java.lang.reflect.Method;
import java.lang.reflect.Modifier;
import java.lang.reflect.Parameter;
import java.net.URL;
import java.net.URLClassLoader;
import java.nio.charset.StandardCharsets;
import java.nio.file.Files;
import java.nio.file.Path;
import java.util.ArrayList;
import java.util.List;
import java.util.regex.Matcher;
import java.util.regex.Pattern;
import javax.tools.JavaCompiler;
import javax.tools.ToolProvider;

/**
 * README.md: its example compiles and prints what the page says, and the page names each call, exception and test.
 * Wants to be run in the project's folder, with a class compiled with -parameters.
 */
public final class ReadmeTest {
    private static final Path PAGE = Path.of("README.md");
    private static final Path TESTS = Path.of("src/test/java");
    private static final String EXAMPLE = "Example";

    public static void main(String[] args) throws IOException, ReflectiveOperationException {
        String page = Files.readString(PAGE);
        example(only(blocks(page, "java")), only(blocks(page, "text")));
        calls(page);
        tests(page);
        Check.finish();
    }

    /** What stands between a line of ``` with that word behind it and the next line of ``` alone. */
    private static List<String> blocks(String page, String kind) {
        Pattern fence = Pattern.compile("^```" + kind + "\n(.*?)^```$", Pattern.DOTALL | Pattern.MULTILINE);
        Matcher matcher = fence.matcher(page);
        List<String> blocks = new ArrayList<>();
        while (matcher.find()) {
            blocks.add(matcher.group(1));
        }
        return blocks;
    }

    private static String only(List<String> blocks) {
        Check.due("README.md has one program and one output", blocks::size, 1);
        return blocks.isEmpty() ? "" : blocks.get(0);
    }

    private static void example(String program, String output) throws IOException, ReflectiveOperationException {
        Path folder = Files.createTempDirectory("readme");
        try {
            Path file = folder.resolve(EXAMPLE + ".java");
            Files.writeString(file, program);
            boolean compiles = compiles(file, folder);
            Check.isTrue("the example of README.md compiles", compiles);
            if (compiles) {
                String[] got = outputOf(folder).split("\\R", -1);
                String[] want = output.split("\n", -1);
                Check.due("lines that the example prints", () -> got.length, want.length);
                for (int i = 0; i < got.length && i < want.length; i++) {
                    int line = i;
                    Check.due("line " + (line + 1) + " of the example", () -> got[line], want[line]);
                }
            }
        } finally {
            remove(folder);
        }
    }

    private static boolean compiles(Path file, Path folder) {
        JavaCompiler compiler = ToolProvider.getSystemJavaCompiler();
        return compiler != null && compiler.run(null, null, null, "-Xlint:all", "-Werror", "-encoding", "UTF-8",
                "-cp", System.getProperty("java.class.path"), "-d", folder.toString(), file.toString()) == 0;
    }

    private static String outputOf(Path folder) throws IOException, ReflectiveOperationException {
        PrintStream before = System.out;
        ByteArrayOutputStream printed = new ByteArrayOutputStream();
        URL[] places = {folder.toUri().toURL()};
        try (URLClassLoader loader = new URLClassLoader(places, ReadmeTest.class.getClassLoader());
                PrintStream out = new PrintStream(printed, true, StandardCharsets.UTF_8)) {
            System.setOut(out);
            Class<?> example = loader.loadClass(EXAMPLE);
            example.getMethod("main", String[].class).invoke(null, (Object) new String[0]);
        } finally {
            System.setOut(before);
        }
        return printed.toString(StandardCharsets.UTF_8);
    }

    private static void remove(Path folder) throws IOException {
        File[] files = folder.toFile().listFiles();
        for (File file : files == null ? new File[0] : files) {
            Files.delete(file.toPath());
        }
        Files.delete(folder);
    }

    /** Each call stands in the page with its parameters, and each exception that one can throw. */
    private static void calls(String page) {
        for (Method method : ToplistHouse.class.getDeclaredMethods()) {
            if (Modifier.isPublic(method.getModifiers())) {
                String call = "`" + method.getName() + "(" + parametersOf(method) + ")`";
                Check.isTrue("README.md names " + call, page.contains(call));
                for (Class<?> exception : method.getExceptionTypes()) {
                    Check.isTrue("README.md names " + exception, page.contains("- `" + exception.getSimpleName()));
                }
            }
        }
    }

    private static String parametersOf(Method method) {
        StringBuilder names = new StringBuilder();
        for (Parameter parameter : method.getParameters()) {
            names.append(names.length() == 0 ? "" : ", ").append(parameter.getName());
        }
        return names.toString();
    }

    /** Each test stands in the page, and each one in the page stands in its folder. */
    private static void tests(String page) {
        File[] files = TESTS.toFile().listFiles();
        for (File file : files == null ? new File[0] : files) {
            String name = file.getName().replace(".java", "");
            Check.isTrue("README.md names " + name, !name.endsWith("Test") || page.contains("`" + name + "`"));
        }
        Matcher named = Pattern.compile("`(\\w+Test)`").matcher(page);
        int count = 0;
        while (named.find()) {
            String name = named.group(1);
            count++;
            Check.isTrue("there is a " + name, Files.isRegularFile(TESTS.resolve(name + ".java")));
        }
        Check.isTrue("README.md names tests", count > 0);
    }
}
