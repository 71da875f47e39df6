import java.io.IOException;
import java.io.PrintWriter;
import java.io.StringWriter;
import java.lang.reflect.Field;
import java.lang.reflect.Method;
import java.lang.reflect.Modifier;
import java.nio.file.Files;
import java.nio.file.Path;
import java.util.ArrayDeque;
import java.util.ArrayList;
import java.util.Deque;
import java.util.HashSet;
import java.util.List;
import java.util.Map;
import java.util.Set;
import java.util.TreeMap;
import java.util.TreeSet;
import java.util.regex.Matcher;
import java.util.regex.Pattern;
import java.util.spi.ToolProvider;

/** What of LANGUAGE.md can be seen in the source and in the classes: a guard, no proof. */
public final class RulesTest {
    private static final Check CHECK = new Check("RulesTest");
    private static final Set<String> LIBRARY = Set.of("Math.max", "Math.min", "System.arraycopy");
    private static final int MOST_LINES = 60;
    private static final int MOST_DEEP = 8;
    private static final Pattern CLASS_LINE = Pattern.compile("^[a-z ]*class ([\\w$]+)");
    private static final Pattern METHOD_LINE = Pattern.compile("^  \\S[^(=]*?([\\w$]+)\\(.*\\).*;$");
    private static final Pattern CALL_LINE = Pattern.compile("// (?:Interface)?Method (?:([\\w$/]+)\\.)?\"?([\\w$<>]+)\"?:");

    /** The source without comments, and with nothing between quotes. */
    private static String source() throws IOException {
        String text = Files.readString(Path.of("src", "main", "java", "ChainIndex.java"));
        text = text.replaceAll("(?s)/\\*.*?\\*/", "").replaceAll("//[^\n]*", "");
        return text.replaceAll("\"[^\"\n]*\"", "\"\"").replaceAll("'.'", "' '");
    }

    private static void noWord(String source, String word) {
        CHECK.due("no " + word, Pattern.compile(word).matcher(source).find(), false);
    }

    private static void theSource() throws IOException {
        String source = source();
        Matcher imports = Pattern.compile("import ([\\w.]+);").matcher(source);
        while (imports.find()) {
            CHECK.due("import " + imports.group(1), imports.group(1).equals("java.util.NoSuchElementException"), true);
        }
        Matcher calls = Pattern.compile("\\b(?:Math|System|Integer|Long|Arrays|Character|String)\\.\\w+").matcher(source);
        while (calls.find()) CHECK.due("library: " + calls.group(), LIBRARY.contains(calls.group()), true);
        for (String word : List.of("->", "::", "\\btry\\b", "\\bcatch\\b", "\\bfinally\\b", "\\bsynchronized\\b", "\\bassert\\b",
                "\\bprotected\\b", "\\bstatic \\{", "\\bdouble\\b", "\\bfloat\\b", "\\bvar\\b", "while \\(true\\)", "\\[\\]\\[\\]\\[\\]")) {
            noWord(source, word);
        }
        Matcher thrown = Pattern.compile("throw new (\\w+)\\((?:\"\")?\\);").matcher(source);
        int throwsOf = 0;
        while (thrown.find()) {
            throwsOf++;
            CHECK.due("throw " + thrown.group(1), thrown.group(1).equals("NoSuchElementException"), true);
        }
        CHECK.due("each throw is of that form", source.split("\\bthrow\\b", -1).length - 1, throwsOf);
    }

    /** A method begins and ends at the same indent, by the way the file is written. */
    private static void methodsAreShort() throws IOException {
        String[] lines = source().split("\n");
        for (int i = 0; i < lines.length; i++) {
            Matcher m = Pattern.compile("^( {4}| {8})\\S.*\\) (?:throws \\w+ )?\\{$").matcher(lines[i]);
            if (!m.find()) continue;
            int end = i;
            while (end < lines.length && !lines[end].equals(m.group(1) + "}")) end++;
            CHECK.due("lines of " + lines[i].trim(), end - i + 1 <= MOST_LINES, true);
        }
    }

    /** Which methods each method calls, as "class.method", read from the compiled classes. */
    private static Map<String, Set<String>> calls() {
        List<String> args = new ArrayList<>(List.of("-c", "-p", "-cp", System.getProperty("java.class.path"), "ChainIndex"));
        for (Class<?> c : ChainIndex.class.getDeclaredClasses()) args.add(c.getName());
        StringWriter text = new StringWriter();
        ToolProvider.findFirst("javap").orElseThrow()
                .run(new PrintWriter(text), new PrintWriter(System.out), args.toArray(new String[0]));
        Map<String, Set<String>> all = new TreeMap<>();
        String owner = "";
        Set<String> called = new TreeSet<>();
        for (String line : text.toString().split("\\R")) {
            Matcher isClass = CLASS_LINE.matcher(line);
            Matcher isMethod = METHOD_LINE.matcher(line);
            Matcher isCall = CALL_LINE.matcher(line);
            if (isClass.find()) {
                owner = isClass.group(1);
            } else if (isMethod.find()) {
                String name = isMethod.group(1).equals(owner) ? "<init>" : isMethod.group(1);
                called = all.computeIfAbsent(owner + "." + name, k -> new TreeSet<>());
            } else if (isCall.find()) {
                called.add((isCall.group(1) == null ? owner : isCall.group(1)) + "." + isCall.group(2));
            }
        }
        return all;
    }

    /** How many calls stand open at most from there on, itself counted; a call of itself ends the count. */
    private static int deep(Map<String, Set<String>> calls, String method, Deque<String> open) {
        CHECK.due("no recursion: " + method, open.contains(method), false);
        if (open.contains(method)) return 1;
        open.push(method);
        int most = 0;
        for (String called : calls.getOrDefault(method, Set.of())) most = Math.max(most, deep(calls, called, open));
        open.pop();
        return most + 1;
    }

    private static void callsAreNotDeep() {
        Map<String, Set<String>> calls = calls();
        CHECK.due("javap shows calls", calls.getOrDefault("ChainIndex.fits", Set.of()).contains("ChainIndex.tallyFits"), true);
        for (Method m : ChainIndex.class.getDeclaredMethods()) {
            String name = "ChainIndex." + m.getName();
            CHECK.due("javap shows " + name, calls.containsKey(name), true);
            int deep = deep(calls, name, new ArrayDeque<>());
            CHECK.due(deep + " deep: " + name, deep <= MOST_DEEP, true);
        }
    }

    private static void noHiddenNameIsAPublicOne() {
        Set<String> open = new HashSet<>();
        for (Method m : ChainIndex.class.getDeclaredMethods()) if (Modifier.isPublic(m.getModifiers())) open.add(m.getName());
        for (Class<?> c : ChainIndex.class.getDeclaredClasses()) {
            for (Method m : c.getDeclaredMethods()) CHECK.due("no public name: " + m, open.contains(m.getName()), false);
        }
    }

    private static void theClasses() {
        List<Class<?>> all = new ArrayList<>(List.of(ChainIndex.class.getDeclaredClasses()));
        for (Class<?> c : all) {
            CHECK.due("static " + c, Modifier.isStatic(c.getModifiers()), true);
            CHECK.due("not public " + c, Modifier.isPublic(c.getModifiers()), false);
        }
        all.add(ChainIndex.class);
        CHECK.due("some twelve classes", all.size() <= 12, true);
        for (Class<?> c : all) {
            int fields = 0;
            for (Field f : c.getDeclaredFields()) {
                boolean isStatic = Modifier.isStatic(f.getModifiers());
                if (!isStatic) fields++;
                CHECK.due("a static field is final: " + f, !isStatic || Modifier.isFinal(f.getModifiers()), true);
            }
            CHECK.due("some twenty fields of " + c, fields <= 20, true);
            for (Method m : c.getDeclaredMethods()) CHECK.due("seven parameters of " + m, m.getParameterCount() <= 7, true);
        }
    }

    public static void main(String[] args) throws IOException {
        theSource();
        methodsAreShort();
        theClasses();
        callsAreNotDeep();
        noHiddenNameIsAPublicOne();
        CHECK.end();
    }
}
