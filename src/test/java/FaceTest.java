import java.io.IOException;
import java.lang.management.ManagementFactory;
import java.lang.reflect.Constructor;
import java.lang.reflect.Executable;
import java.lang.reflect.Field;
import java.lang.reflect.Method;
import java.lang.reflect.Modifier;
import java.nio.charset.StandardCharsets;
import java.nio.file.Files;
import java.nio.file.Path;
import java.util.ArrayList;
import java.util.Arrays;
import java.util.List;
import java.util.Set;
import java.util.TreeSet;

/** The public face, and what of ../shared/LANGUAGE.md a program can look after. */
public final class FaceTest {
    private static final String[] FACE = {
        "around int int : int", "cover int int : int", "doc : int", "drop int : int", "end int : boolean",
        "fault int : int", "feed int int int int int : int", "find : int", "head int int : int",
        "kindAt int int : int", "lengths int int : boolean", "likely boolean : long", "longer int int : int",
        "look int : int", "match int int : int", "measure int int boolean : long", "of int int : int",
        "rank int int : int", "ranked int int : int", "rest int int : long", "share int int : int",
        "slate int : int", "term int boolean : int", "text int : int", "told int int : int", "undo : boolean",
        "weight int int : boolean", "wide int : boolean", "word int int boolean : int"};

    /** The library that may be named, and what the language spells with an upper-case letter. */
    private static final Set<String> NAMES = Set.of("Math.max", "Math.min", "Math.abs", "Integer.bitCount");

    private FaceTest() {
    }

    public static void main(String[] args) throws IOException {
        face();
        members();
        Path source = Path.of("src/main/java/TermDraw.java");
        lines(Files.readAllLines(source, StandardCharsets.UTF_8));
        words(Files.readString(source, StandardCharsets.UTF_8));
        room();
        Checks.close("FaceTest");
    }

    private static List<Class<?>> classes() {
        List<Class<?>> all = new ArrayList<>(Arrays.asList(TermDraw.class.getDeclaredClasses()));
        all.add(TermDraw.class);
        return all;
    }

    private static boolean isPublic(int modifiers) {
        return Modifier.isPublic(modifiers);
    }

    private static void face() {
        TreeSet<String> found = new TreeSet<>();
        for (Method m : TermDraw.class.getDeclaredMethods()) {
            if (isPublic(m.getModifiers())) {
                StringBuilder all = new StringBuilder(m.getName());
                for (Class<?> p : m.getParameterTypes()) {
                    all.append(' ').append(p.getSimpleName());
                }
                found.add(all + " : " + m.getReturnType().getSimpleName());
            }
        }
        Checks.due("the face", found.toString(), new TreeSet<>(Arrays.asList(FACE)).toString());
        Checks.due("public and final", Modifier.isFinal(TermDraw.class.getModifiers())
                && isPublic(TermDraw.class.getModifiers()), true);
        Constructor<?>[] made = TermDraw.class.getDeclaredConstructors();
        Checks.due("constructors", made.length, 1);
        Checks.due("constructor is public", isPublic(made[0].getModifiers()), true);
        Checks.due("constructor takes", made[0].getParameterCount(), 0);
        for (Field f : TermDraw.class.getDeclaredFields()) {
            boolean open = f.getName().equals("NONE");
            Checks.due("field " + f.getName(), isPublic(f.getModifiers()), open);
            Checks.due("field " + f.getName(), Modifier.isPrivate(f.getModifiers()), !open);
        }
        for (Method m : TermDraw.class.getDeclaredMethods()) {
            Checks.due("method " + m.getName(),
                    isPublic(m.getModifiers()) || Modifier.isPrivate(m.getModifiers()), true);
        }
    }

    private static void members() {
        TreeSet<String> names = new TreeSet<>();
        for (String s : FACE) {
            names.add(s.substring(0, s.indexOf(' ')));
        }
        Checks.due("some twelve classes", classes().size() <= 12, true);
        for (Class<?> c : classes()) {
            int fields = 0;
            for (Field f : c.getDeclaredFields()) {
                if (!Modifier.isStatic(f.getModifiers())) {
                    fields++;
                } else {
                    Checks.due("static " + f.getName(), Modifier.isFinal(f.getModifiers()), true);
                    Checks.due("static " + f.getName(), f.getType() == int.class || f.getType() == long.class, true);
                }
            }
            Checks.due("some twenty fields in " + c.getSimpleName(), fields <= 20, true);
            List<Executable> all = new ArrayList<>(Arrays.asList(c.getDeclaredMethods()));
            all.addAll(Arrays.asList(c.getDeclaredConstructors()));
            for (Executable m : all) {
                Checks.due("parameters of " + m.getName(), m.getParameterCount() <= 7, true);
                boolean own = c == TermDraw.class && isPublic(m.getModifiers());
                Checks.due("name of a public method: " + m.getName(), names.contains(m.getName()) && !own, false);
            }
            Checks.due("private class " + c.getSimpleName(),
                    c == TermDraw.class || Modifier.isPrivate(c.getModifiers()) && Modifier.isStatic(c.getModifiers()), true);
        }
    }

    /** Methods of some sixty lines at most: told by how far their lines are set in. */
    private static void lines(List<String> lines) {
        for (int i = 0; i < lines.size(); i++) {
            String line = lines.get(i);
            for (int k = 0; k < line.length(); k++) {
                Checks.due("sign in line " + (i + 1), line.charAt(k) >= 1 && line.charAt(k) <= 127, true);
            }
            boolean opens = line.matches(" {4}( {4})?[a-z].*\\) \\{");
            if (!opens) {
                continue;
            }
            String close = line.substring(0, line.length() - line.trim().length()) + "}";
            int to = i;
            while (!lines.get(to).equals(close)) {
                to++;
            }
            Checks.due("lines of the method in line " + (i + 1), to - i <= 60, true);
        }
    }

    private static void words(String source) {
        String code = source.replaceAll("(?s)/\\*.*?\\*/", "").replaceAll("//[^\n]*", "").replaceAll("'.'", "0");
        String[] out = {"import", "package", "->", "::", "@", "assert ", "finally", "synchronized", "catch", "throw",
            "\"", "Double", "Float", "Character", "System", "Thread", "instanceof", "protected", "volatile", "Exact"};
        for (String word : out) {
            Checks.due("in the source: " + word, code.contains(word), false);
        }
        TreeSet<String> own = new TreeSet<>();
        for (Class<?> c : classes()) {
            own.add(c.getSimpleName());
        }
        java.util.regex.Matcher m = java.util.regex.Pattern.compile("\\b([A-Z][a-z]\\w*)((?:\\.\\w+)?)").matcher(code);
        while (m.find()) {
            Checks.due("library in the source: " + m.group(), own.contains(m.group(1)) || NAMES.contains(m.group()), true);
        }
        java.util.regex.Matcher loops = java.util.regex.Pattern.compile("for \\(;|while \\(true").matcher(code);
        Checks.due("a loop without a bound", loops.find(), false);
    }

    private static long allocated() {
        return ((com.sun.management.ThreadMXBean) ManagementFactory.getThreadMXBean()).getCurrentThreadAllocatedBytes();
    }

    /** Nothing is made but in the constructor, and that makes a little part of the room. */
    private static void room() {
        use(new TermDraw());
        long before = allocated();
        TermDraw x = new TermDraw();
        long made = allocated() - before;
        Checks.due("the constructor makes " + made + " bytes", made < 600_000, true);
        before = allocated();
        use(x);
        made = allocated() - before;
        Checks.due("calls make " + made + " bytes", made < 2_000, true);
    }

    private static void use(TermDraw x) {
        for (int i = 0; i < 100; i++) {
            x.feed(0x61206220, 0x63206420, 0x61206220, 0x2e616120, 0x62206320);
            if (i % 3 == 0) {
                x.doc();
                x.lengths(1, 1 + i % 5);
                x.weight(1, i % 9);
                x.wide(i % 4);
            }
            x.text(i % 6);
            x.feed(0x782a7878, 0x20202020, 0x20202020, 0x20202020, 0x20202020);
            x.text(4);
            x.drop(6);
            for (int k = 0; k < 7; k++) {
                x.ranked(k, i % 5);
                x.rank(i % 5, k);
                x.cover(k, i % 5);
                x.share(i % 5, k);
                x.rest(i % 5, k);
                x.measure(i % 5, k, true);
                x.told(0, k);
                x.term(k, true);
                x.around(k, 0);
                x.likely(false);
                x.longer(k, 0);
                x.head(k, 1);
                x.match(k, 3);
                x.of(0, k);
            }
            x.find();
            x.undo();
        }
    }
}
