import java.io.IOException;
import java.lang.reflect.Field;
import java.lang.reflect.Method;
import java.lang.reflect.Modifier;
import java.nio.file.Files;
import java.nio.file.Path;
import java.util.ArrayList;
import java.util.Collections;
import java.util.List;
import java.util.TreeSet;
import java.util.regex.Matcher;
import java.util.regex.Pattern;

/** The face is the document's, nothing else is to be seen, and no call makes objects. */
public final class FaceTest {
    private static final Check CHECK = new Check("FaceTest");

    private static String signature(Method m) {
        StringBuilder s = new StringBuilder(m.getReturnType().getSimpleName()).append(' ').append(m.getName()).append('(');
        for (Class<?> p : m.getParameterTypes()) s.append(p.getSimpleName()).append(' ');
        return s.append(')').toString();
    }

    /** The methods of the document, written as signature() writes them. */
    private static TreeSet<String> promised() throws IOException {
        String doc = Files.readString(Path.of("..", "shared", "DOC.md"));
        doc = doc.substring(doc.indexOf("```java"), doc.indexOf("## Terms"));
        TreeSet<String> all = new TreeSet<>();
        Matcher m = Pattern.compile("public (\\w+) (\\w+)\\(([^)]*)\\)").matcher(doc);
        while (m.find()) {
            StringBuilder s = new StringBuilder(m.group(1)).append(' ').append(m.group(2)).append('(');
            for (String p : m.group(3).split(",")) if (!p.isBlank()) s.append(p.trim().split(" ")[0]).append(' ');
            all.add(s.append(')').toString());
        }
        return all;
    }

    private static void theFace() throws IOException {
        TreeSet<String> open = new TreeSet<>();
        TreeSet<String> names = new TreeSet<>();
        List<String> hidden = new ArrayList<>();
        for (Method m : ChainIndex.class.getDeclaredMethods()) {
            if (Modifier.isPublic(m.getModifiers())) {
                open.add(signature(m));
                names.add(m.getName());
            } else {
                hidden.add(m.getName());
                CHECK.due("private " + m, Modifier.isPrivate(m.getModifiers()), true);
            }
        }
        TreeSet<String> promised = promised();
        CHECK.due("methods", promised.size(), 43);
        CHECK.due("the document's methods", open.equals(promised), true);
        CHECK.due("no hidden name is a public one", Collections.disjoint(hidden, names), true);
        for (Field f : ChainIndex.class.getDeclaredFields()) {
            boolean isNone = f.getName().equals("NONE");
            CHECK.due("field " + f, isNone ? Modifier.isPublic(f.getModifiers()) : Modifier.isPrivate(f.getModifiers()), true);
            if (Modifier.isStatic(f.getModifiers())) {
                CHECK.due("final " + f, Modifier.isFinal(f.getModifiers()), true);
            }
        }
        CHECK.due("constructors", ChainIndex.class.getDeclaredConstructors().length, 1);
        CHECK.due("final", Modifier.isFinal(ChainIndex.class.getModifiers()), true);
        CHECK.due("classes", ChainIndex.class.getDeclaredClasses().length <= 11, true);
    }

    private static long bytes() {
        com.sun.management.ThreadMXBean bean =
                (com.sun.management.ThreadMXBean) java.lang.management.ManagementFactory.getThreadMXBean();
        return bean.getThreadAllocatedBytes(Thread.currentThread().getId());
    }

    private static void manyCalls(ChainIndex x) {
        // Fifteen times 31 calls: the document speaks of 512 at most.
        for (int i = 0; i < 15; i++) {
            x.append(0, i);
            x.cut(0);
            x.turn(0);
            x.cross(0, i % 3);
            x.keep(0, 0);
            x.undo();
            x.judged(2);
            x.mark(i % 4, i % 3 == 0);
            x.see(0, 2, true);
            x.pick(0, 0, 5, 1);
            x.ways(0, 0, 5);
            x.must(0, 0, 5);
            x.may(0, 0, 5);
            x.under(0, 0, 5);
            x.how(0, 2);
            x.near(0, 2);
            x.piles(0, 0, 5, -1);
            x.shape(0, 0, 5, 0);
            x.power(0, 20, 0);
            x.settles(0);
            x.knit(0, 1);
            x.below(0, 0);
            x.common(0, 0, 0, 5);
            x.meets(0, 0, 0);
            x.ask(0);
            x.drawn(5, 20, 100, 2);
            x.feed(Check.pack("weighs(n", 0), Check.pack("umber+1)", 0), Check.pack("*2;row q", 0));
            x.index();
            x.feed(Check.pack("cut r;", 0), 0, 0);
            x.work();
        }
    }

    private static void noObjects() {
        String text = "row r strict 3 1 4 1 5 9 2 6; braid b 1 2 3 0;";
        manyCalls(Check.told(text));
        ChainIndex x = Check.told(text);
        long idle = bytes();
        idle = bytes() - idle;
        long before = bytes();
        manyCalls(x);
        long made = bytes() - before - idle;
        CHECK.due("bytes made by calls: " + made, made < 4096, true);
        before = bytes();
        new ChainIndex();
        long room = bytes() - before - idle;
        CHECK.due("bytes made by an object: " + room, room < 60000, true);
    }

    public static void main(String[] args) throws IOException {
        theFace();
        noObjects();
        CHECK.end();
    }
}
