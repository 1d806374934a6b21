import java.io.IOException;
import java.lang.management.ManagementFactory;
import java.lang.reflect.Field;
import java.lang.reflect.Method;
import java.lang.reflect.Modifier;
import java.nio.file.Files;
import java.nio.file.Path;
import java.util.Arrays;
import java.util.Set;
import java.util.TreeSet;
import java.util.regex.Matcher;
import java.util.regex.Pattern;

/** The face of the document, the rules of LANGUAGE.md that can be looked up, and the room that calls take. */
public final class FaceTest {
    private static final String FACE = "write 1, wipe 0, fault 0, lay 0, cause 1, curve 1, levels 2, box 5, disc 4, "
            + "drop 1, point 2, lift 1, key 2, cell 2, tile 3, beside 4, common 4, leaps 0, in 2, cover 3, rest 1, "
            + "best 1, span 3, joined 2, at 2, ordered 1, search 1, found 1, nearest 2, count 1";

    public static void main(String[] args) throws IOException {
        constants();
        face();
        nestedClasses();
        source(Path.of(args.length > 0 ? args[0] : "."));
        room();
        Check.end();
    }

    private static void right(String what, boolean is) {
        Check.due(what, is ? 1 : 0, 1);
    }

    private static void constants() {
        Check.due("BAD", QuadKeys.BAD, -1);
        Check.due("NO", QuadKeys.NO, -2);
        Check.due("FULL", QuadKeys.FULL, -3);
        Check.due("NONE", QuadKeys.NONE, -4);
    }

    private static void face() {
        right("public and final", Modifier.isPublic(QuadKeys.class.getModifiers())
                && Modifier.isFinal(QuadKeys.class.getModifiers()));
        Set<String> open = new TreeSet<>();
        for (Method method : QuadKeys.class.getDeclaredMethods()) {
            if (!Modifier.isPrivate(method.getModifiers())) {
                open.add(method.getName() + " " + method.getParameterCount());
                right(method + " answers an int", method.getReturnType() == int.class);
                for (Class<?> type : method.getParameterTypes()) {
                    right(method + " takes ints", type == int.class);
                }
            }
        }
        Check.due("methods " + open, open.equals(new TreeSet<>(Arrays.asList(FACE.split(", ")))) ? 1 : 0, 1);
        Set<String> fields = new TreeSet<>();
        for (Field field : QuadKeys.class.getDeclaredFields()) {
            if (!Modifier.isPrivate(field.getModifiers())) {
                fields.add(field.getName());
            }
        }
        right("fields " + fields, fields.equals(new TreeSet<>(Arrays.asList("BAD", "NO", "FULL", "NONE"))));
    }

    private static void nestedClasses() {
        Set<String> face = new TreeSet<>();
        for (String name : FACE.split(", ")) {
            face.add(name.split(" ")[0]);
        }
        right("few classes", QuadKeys.class.getDeclaredClasses().length < 12);
        for (Class<?> inside : QuadKeys.class.getDeclaredClasses()) {
            right(inside + " is static", Modifier.isStatic(inside.getModifiers()));
            for (Method method : inside.getDeclaredMethods()) {
                right(method + " has a name of its own", !face.contains(method.getName()));
                right(method + " takes few", method.getParameterCount() <= 7);
            }
            int own = 0;
            for (Field field : inside.getDeclaredFields()) {
                boolean fixed = Modifier.isStatic(field.getModifiers());
                right(field + " is final if static", !fixed || Modifier.isFinal(field.getModifiers()));
                own += fixed ? 0 : 1;
            }
            right(inside + " has few fields", own <= 20);
        }
    }

    /** Words that the rules leave out, looked for behind the comments and texts. */
    private static void source(Path root) throws IOException {
        String code = Files.readString(root.resolve("src/main/java/QuadKeys.java"));
        String bare = code.replaceAll("(?s)/\\*.*?\\*/|//[^\n]*", "").replaceAll("\"[^\"\n]*\"", "T");
        String[] words = {"\\bthrow\\b", "\\bthrows\\b", "\\btry\\b", "\\bcatch\\b", "\\bfinally\\b", "\\bassert\\b",
            "\\bsynchronized\\b", "\\bvolatile\\b", "->", "::", "\\bsealed\\b", "static\\s*\\{", "\\bObject\\b",
            "\\bpackage\\b", "Exact\\(", "T \\+", "\\+ T", "\\bdouble\\b", "\\bfloat\\b", "\\bvar\\b"};
        for (String word : words) {
            right("no " + word, !Pattern.compile(word).matcher(bare).find());
        }
        Matcher imports = Pattern.compile("import ([^;]*);").matcher(bare);
        while (imports.find()) {
            Check.due("import " + imports.group(1), imports.group(1).equals("java.util.Arrays") ? 1 : 0, 1);
        }
        right("plain signs", code.chars().allMatch(sign -> sign == 10 || sign >= 32 && sign < 127));
    }

    /** Calls make no objects: what the constructor makes is all the room that an object takes. */
    private static void room() {
        com.sun.management.ThreadMXBean bean = (com.sun.management.ThreadMXBean) ManagementFactory.getThreadMXBean();
        dearCalls(new QuadKeys());
        long id = Thread.currentThread().getId();
        long start = bean.getThreadAllocatedBytes(id);
        long before = bean.getThreadAllocatedBytes(id);
        QuadKeys q = new QuadKeys();
        long made = bean.getThreadAllocatedBytes(id);
        dearCalls(q);
        long after = bean.getThreadAllocatedBytes(id);
        long looking = before - start;
        Check.due("bytes of an object under 10000: " + (made - before), made - before < 10000 ? 1 : 0, 1);
        Check.due("bytes of calls: " + (after - made), after - made <= looking + 100 ? 1 : 0, 1);
    }

    private static void dearCalls(QuadKeys q) {
        String text = "w6,1;+d31,31,30;";
        for (int i = 0; i < text.length(); i++) {
            q.write(text.charAt(i));
        }
        q.lay();
        for (int i = 0; i < 40; i++) {
            q.point(i, i);
        }
        for (int i = 0; i < 20; i++) {
            q.disc(i % 2, 20 + i, 30, 5);
            q.best(12);
            q.cover(0, 50, 1);
            q.span(1, 10, 1);
            q.joined(0, 99);
            q.leaps();
            q.tile(0, 0, 5);
            q.found(3);
            q.ordered(39);
            q.nearest(9, 9);
            q.fault();
            q.drop(1);
        }
    }
}
