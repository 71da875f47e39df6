import java.io.IOException;
import java.lang.reflect.Field;
import java.lang.reflect.Method;
import java.lang.reflect.Modifier;
import java.nio.file.Files;
import java.nio.file.Path;
import java.util.ArrayList;
import java.util.List;
import java.util.Set;
import java.util.regex.Matcher;
import java.util.regex.Pattern;

/** What of LANGUAGE.md can be seen in the source and in the classes: a guard, no proof. */
public final class RulesTest {
    private static final Check CHECK = new Check("RulesTest");
    private static final Set<String> LIBRARY = Set.of("Math.max", "Math.min", "System.arraycopy");
    private static final int MOST_LINES = 60;

    /** The source without comments, and with nothing between quotes. */
    private static String source() throws IOException {
        String text = Files.readString(Path.of("src", "main", "java", "ChainIndex.java"));
        text = text.replaceAll("(?s)/\\*.*?\\*/", "").replaceAll("//[^\n]*", "");
        return text.replaceAll("\"[^\"\n]*\"", "\"\"").replaceAll("'.'", "' '");
    }

    private static void noWord(String source, String word) {
        CHECK.due("no " + word, Pattern.compile(word).matcher(source).find(), false);
    }

    private static void theSource() throws IOException {
        String source = source();
        Matcher imports = Pattern.compile("import ([\\w.]+);").matcher(source);
        while (imports.find()) {
            CHECK.due("import " + imports.group(1), imports.group(1).equals("java.util.NoSuchElementException"), true);
        }
        Matcher calls = Pattern.compile("\\b(?:Math|System|Integer|Long|Arrays|Character|String)\\.\\w+").matcher(source);
        while (calls.find()) CHECK.due("library: " + calls.group(), LIBRARY.contains(calls.group()), true);
        for (String word : List.of("->", "::", "\\btry\\b", "\\bcatch\\b", "\\bfinally\\b", "\\bsynchronized\\b", "\\bassert\\b",
                "\\bprotected\\b", "\\bstatic \\{", "\\bdouble\\b", "\\bfloat\\b", "\\bvar\\b", "while \\(true\\)", "\\[\\]\\[\\]\\[\\]")) {
            noWord(source, word);
        }
        Matcher thrown = Pattern.compile("throw new (\\w+)\\((?:\"\")?\\);").matcher(source);
        int throwsOf = 0;
        while (thrown.find()) {
            throwsOf++;
            CHECK.due("throw " + thrown.group(1), thrown.group(1).equals("NoSuchElementException"), true);
        }
        CHECK.due("each throw is of that form", source.split("\\bthrow\\b", -1).length - 1, throwsOf);
    }

    /** A method begins and ends at the same indent, by the way the file is written. */
    private static void methodsAreShort() throws IOException {
        String[] lines = source().split("\n");
        for (int i = 0; i < lines.length; i++) {
            Matcher m = Pattern.compile("^( {4}| {8})\\S.*\\) (?:throws \\w+ )?\\{$").matcher(lines[i]);
            if (!m.find()) continue;
            int end = i;
            while (end < lines.length && !lines[end].equals(m.group(1) + "}")) end++;
            CHECK.due("lines of " + lines[i].trim(), end - i + 1 <= MOST_LINES, true);
        }
    }

    private static void theClasses() {
        List<Class<?>> all = new ArrayList<>(List.of(ChainIndex.class.getDeclaredClasses()));
        for (Class<?> c : all) {
            CHECK.due("static " + c, Modifier.isStatic(c.getModifiers()), true);
            CHECK.due("not public " + c, Modifier.isPublic(c.getModifiers()), false);
        }
        all.add(ChainIndex.class);
        CHECK.due("some twelve classes", all.size() <= 12, true);
        for (Class<?> c : all) {
            int fields = 0;
            for (Field f : c.getDeclaredFields()) {
                boolean isStatic = Modifier.isStatic(f.getModifiers());
                if (!isStatic) fields++;
                CHECK.due("a static field is final: " + f, !isStatic || Modifier.isFinal(f.getModifiers()), true);
            }
            CHECK.due("some twenty fields of " + c, fields <= 20, true);
            for (Method m : c.getDeclaredMethods()) CHECK.due("seven parameters of " + m, m.getParameterCount() <= 7, true);
        }
    }

    public static void main(String[] args) throws IOException {
        theSource();
        methodsAreShort();
        theClasses();
        CHECK.end();
    }
}
