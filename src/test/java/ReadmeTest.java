import java.io.IOException;
import java.lang.reflect.InvocationTargetException;
import java.lang.reflect.Method;
import java.lang.reflect.Modifier;
import java.net.URL;
import java.net.URLClassLoader;
import java.nio.file.Files;
import java.nio.file.Path;
import java.util.ArrayList;
import java.util.Comparator;
import java.util.List;
import java.util.concurrent.Callable;
import java.util.regex.Matcher;
import java.util.regex.Pattern;
import java.util.stream.Stream;
import javax.tools.JavaCompiler;
import javax.tools.ToolProvider;

/**
 * What README.md shows as a use of the class compiles and answers as README.md says. The examples
 * are compiled as they stand; each line with an answer behind it is also asked and compared.
 */
public final class ReadmeTest {
    private static final Check CHECK = new Check("ReadmeTest");
    private static final Pattern BLOCK = Pattern.compile("(?s)```java\n(.*?)```");
    private static final Pattern COMMENTED = Pattern.compile("^(.*\\));\\s*//\\s*(.*)$");
    private static final Pattern ANSWER = Pattern.compile("^(-?\\d+|true|false|throws \\w+)(?:: .+)?$");
    private static final Pattern FIXED_CALL = Pattern.compile("^x\\.(\\w+)\\(.*\\);.*$");

    private static List<String> blocks() throws IOException {
        List<String> all = new ArrayList<>();
        Matcher m = BLOCK.matcher(Files.readString(Path.of("README.md")));
        while (m.find()) all.add(m.group(1));
        return all;
    }

    private static boolean isOfMethods(String block) {
        return block.startsWith("static ");
    }

    private static String quoted(String text) {
        return '"' + text.replace("\\", "\\\\").replace("\"", "\\\"") + '"';
    }

    /** A line that says what it answers becomes a question; another one stays as it is. */
    private static String asked(String line) {
        Matcher commented = COMMENTED.matcher(line);
        if (!commented.matches()) return line;
        Matcher answer = ANSWER.matcher(commented.group(2));
        CHECK.due("an answer stands behind " + line, answer.matches(), true);
        if (!answer.matches()) return line;
        String call = commented.group(1);
        return "ReadmeTest.due(" + quoted(call) + ", () -> " + call + ", " + quoted(answer.group(1)) + ");";
    }

    /** What a generated class asks: the answer as a text must be the one that README.md tells. */
    public static void due(String call, Callable<Object> asked, String want) {
        String got;
        try {
            got = String.valueOf(asked.call());
        } catch (Exception e) {
            got = "throws " + e.getClass().getSimpleName();
        }
        CHECK.due(call + " of README.md answered " + got + ", told is " + want + "; as told", got.equals(want), true);
    }

    /** All blocks as one class: methods as they are, each other block as a method of its own. */
    private static String classOf(String name, List<String> blocks, boolean asks) {
        StringBuilder s = new StringBuilder("public final class " + name + " {\n");
        StringBuilder runs = new StringBuilder();
        for (int i = 0; i < blocks.size(); i++) {
            if (isOfMethods(blocks.get(i))) {
                s.append(blocks.get(i));
                continue;
            }
            s.append("static void example").append(i).append("() {\n");
            for (String line : blocks.get(i).split("\n")) s.append(asks ? asked(line) : line).append('\n');
            s.append("}\n");
            runs.append("example").append(i).append("();\n");
        }
        return s.append("public static void run() {\n").append(runs).append("}\n}\n").toString();
    }

    private static boolean compile(Path folder, String name, String source) throws IOException {
        Path file = folder.resolve(name + ".java");
        Files.writeString(file, source);
        JavaCompiler compiler = ToolProvider.getSystemJavaCompiler();
        return compiler != null && compiler.run(null, null, null, "-Xlint:all", "-Werror", "-cp",
                System.getProperty("java.class.path"), "-d", folder.toString(), file.toString()) == 0;
    }

    private static void examplesAnswer(Path folder, List<String> blocks) throws IOException, ReflectiveOperationException {
        CHECK.due("README.md compiles as it stands", compile(folder, "Shown", classOf("Shown", blocks, false)), true);
        boolean compiled = compile(folder, "Asked", classOf("Asked", blocks, true));
        CHECK.due("README.md compiles as questions", compiled, true);
        if (!compiled) return;
        try (URLClassLoader loader = new URLClassLoader(new URL[] {folder.toUri().toURL()})) {
            loader.loadClass("Asked").getMethod("run").invoke(null);
        } catch (InvocationTargetException e) {
            CHECK.due("README.md throws " + e.getCause(), false, true);
        }
    }

    /** Each call of an example tells its answer, and each call of the face is in one. */
    private static void allCallsAreShown(List<String> blocks) {
        List<String> shown = new ArrayList<>();
        for (String block : blocks) {
            for (String line : block.split("\n")) {
                Matcher call = FIXED_CALL.matcher(line);
                if (!call.matches()) continue;
                CHECK.due("its answer stands behind " + line, COMMENTED.matcher(line).matches(), true);
                shown.add(call.group(1));
            }
            if (isOfMethods(block) && block.contains("x.feed(")) shown.add("feed");
        }
        for (Method m : ChainIndex.class.getDeclaredMethods()) {
            if (Modifier.isPublic(m.getModifiers())) CHECK.due("README.md shows " + m.getName(), shown.contains(m.getName()), true);
        }
    }

    private static void howToTestIsTold() throws IOException {
        String text = Files.readString(Path.of("README.md"));
        CHECK.due("README.md tells of .ci/run", text.contains("\n.ci/run\n"), true);
        CHECK.due(".ci/run can be run", Files.isExecutable(Path.of(".ci", "run")), true);
        try (Stream<Path> files = Files.list(Path.of("src", "test", "java"))) {
            for (Path file : files.toList()) {
                String name = file.getFileName().toString().replace(".java", "");
                if (name.endsWith("Test")) CHECK.due("README.md tells of " + name, text.contains("`" + name + "`"), true);
            }
        }
    }

    private static void remove(Path folder) throws IOException {
        try (Stream<Path> all = Files.walk(folder)) {
            for (Path path : all.sorted(Comparator.reverseOrder()).toList()) Files.delete(path);
        }
    }

    public static void main(String[] args) throws IOException, ReflectiveOperationException {
        List<String> blocks = blocks();
        CHECK.due("README.md shows examples", blocks.size() > 1, true);
        Path folder = Files.createTempDirectory("readme");
        try {
            examplesAnswer(folder, blocks);
        } finally {
            remove(folder);
        }
        allCallsAreShown(blocks);
        howToTestIsTold();
        CHECK.end();
    }
}
