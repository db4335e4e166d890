import java.io.ByteArrayOutputStream;
import java.io.IOException;
import java.io.PrintStream;
import java.lang.reflect.Method;
import java.lang.reflect.Modifier;
import java.net.URL;
import java.net.URLClassLoader;
import java.nio.charset.StandardCharsets;
import java.nio.file.Files;
import java.nio.file.Path;
import java.util.ArrayList;
import java.util.List;
import java.util.regex.Matcher;
import java.util.regex.Pattern;
import javax.tools.ToolProvider;

/** What README.md shows of calls and answers holds. Run from the project's folder. */
public final class ReadmeTest {
    private static final Pattern BLOCK = Pattern.compile("(?s)```(\\w+)\\n(.*?)```");
    private static final Due DUE = new Due();

    public static void main(String[] args) throws Exception {
        String readme = Files.readString(Path.of("README.md"), StandardCharsets.UTF_8);
        List<String> programs = blocks(readme, "java");
        List<String> texts = blocks(readme, "text");
        DUE.is("programs", 1, programs.size());
        DUE.is("what it prints, ranges, registries", 3, texts.size());
        DUE.is("what the program prints", texts.get(0), printed(programs.get(0)));
        texts.get(1).lines().forEach(ReadmeTest::checkRange);
        texts.get(2).lines().forEach(ReadmeTest::checkRegistry);
        checkCalls(readme);
        DUE.is("how to run the tests", "[.ci/run\n]", blocks(readme, "sh").toString());
        DUE.is("it can be run", 1, Files.isExecutable(Path.of(".ci/run")) ? 1 : 0);
        checkTests(readme);
        DUE.end();
    }

    private static List<String> blocks(String readme, String kind) {
        List<String> found = new ArrayList<>();
        Matcher m = BLOCK.matcher(readme);
        while (m.find()) {
            if (m.group(1).equals(kind)) {
                found.add(m.group(2));
            }
        }
        return found;
    }

    /** Compiles the program beside the class, and runs it. */
    private static String printed(String program) throws Exception {
        Path folder = Files.createTempDirectory("readme");
        Path source = Files.writeString(folder.resolve("Example.java"), program);
        int failed = ToolProvider.getSystemJavaCompiler().run(null, null, null, "-Xlint:all", "-Werror",
            "-cp", System.getProperty("java.class.path"), "-d", folder.toString(), source.toString());
        DUE.is("the program compiles", 0, failed);
        PrintStream out = System.out;
        ByteArrayOutputStream bytes = new ByteArrayOutputStream();
        try (URLClassLoader loader = new URLClassLoader(new URL[] {folder.toUri().toURL()})) {
            System.setOut(new PrintStream(bytes, true, StandardCharsets.UTF_8));
            loader.loadClass("Example").getMethod("main", String[].class).invoke(null, (Object) new String[0]);
        } finally {
            System.setOut(out);
            remove(folder);
        }
        return bytes.toString(StandardCharsets.UTF_8).replace(System.lineSeparator(), "\n");
    }

    private static void remove(Path folder) throws IOException {
        try (var files = Files.list(folder)) {
            for (Path file : files.toList()) {
                Files.delete(file);
            }
        }
        Files.delete(folder);
    }

    private static void checkRange(String line) {
        String[] columns = line.split(" {2,}");
        DUE.is("columns of " + line, 2, columns.length);
        DUE.is("range \"" + columns[0] + "\"", columns[1], Due.range(new RangeResolver(), columns[0]));
    }

    private static void checkRegistry(String line) {
        String[] columns = line.split(" {2,}");
        DUE.is("columns of " + line, 3, columns.length);
        int answer = Integer.parseInt(columns[1]);
        DUE.is("read of \"" + columns[0] + "\"", answer, Due.read(new RangeResolver(), columns[0]));
        String[] kinds = {"fine", "form", "too much", "twice", "unknown"};
        String why = answer == 0 ? "fine" : kinds[answer % 8] + ": " + answer % 8 + " + 8 * " + answer / 8 + ",";
        DUE.is("why, of \"" + columns[0] + "\"", 1, columns[2].startsWith(why) ? 1 : 0);
    }

    /** Each call has its row. */
    private static void checkCalls(String readme) {
        for (Method method : RangeResolver.class.getDeclaredMethods()) {
            if (Modifier.isPublic(method.getModifiers())) {
                String row = "\\n\\| `" + method.getName() + "\\(\\w+(, \\w+){" + (method.getParameterCount() - 1) + "}\\)` \\|";
                DUE.is("a row of " + method.getName(), 1, Pattern.compile(row).matcher(readme).find() ? 1 : 0);
            }
        }
    }

    /** Each test is told of, by its name or by that of its kind. */
    private static void checkTests(String readme) throws IOException {
        try (var files = Files.list(Path.of("src/test/java"))) {
            for (Path file : files.toList()) {
                String name = file.getFileName().toString().replace(".java", "");
                String told = name.replaceAll("^Promise\\d+\\w+Test$", "PromiseNN...Test").replaceAll("^(Boundary|MadeUp)\\w+Test$", "$1...Test");
                DUE.is(name + " is told of", 1, name.equals("Due") || readme.contains("`" + told + "`") ? 1 : 0);
            }
        }
    }
}
