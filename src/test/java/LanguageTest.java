import java.lang.management.ManagementFactory;
import java.lang.reflect.Field;
import java.lang.reflect.Method;
import java.lang.reflect.Modifier;
import java.nio.file.Files;
import java.nio.file.Path;
import java.util.ArrayList;
import java.util.Arrays;
import java.util.List;
import java.util.Set;
import java.util.TreeSet;
import java.util.regex.Matcher;
import java.util.regex.Pattern;

/** What can be seen of the rules in LANGUAGE.md: the face, the words of the source, and that calls make nothing. */
public final class LanguageTest {
    private static final String[] FORBIDDEN = {
        "\\bthrow\\b", "\\btry\\b", "\\bcatch\\b", "\\bsynchronized\\b", "\\bassert\\b", "\\bimport\\b", "->", "::",
        "\\bSystem\\.(?!arraycopy)", "\\bException\\b", "\\bprotected\\b", "\\bThread\\b", "\\bRandom\\b",
        "Exact\\b", "while \\(true\\)", "for \\(;;\\)", "\\bhashCode\\b", "\\btoString\\b"};

    private static Set<String> facePromised() throws Exception {
        Set<String> face = new TreeSet<>();
        Matcher m = Pattern.compile("    public (int|long) (\\w+)\\((.*)\\);")
            .matcher(Files.readString(Path.of("../shared/DOC.md")));
        while (m.find()) {
            int parameters = m.group(3).isEmpty() ? 0 : m.group(3).split(",").length;
            face.add(m.group(1) + " " + m.group(2) + " of " + parameters);
        }
        return face;
    }

    private static void face() throws Exception {
        Set<String> built = new TreeSet<>();
        Set<String> publicNames = new TreeSet<>();
        for (Method m : LampLogs.class.getDeclaredMethods()) {
            if (Modifier.isPrivate(m.getModifiers())) {
                continue;
            }
            Due.holds(m + " is neither public nor private", Modifier.isPublic(m.getModifiers()));
            publicNames.add(m.getName());
            built.add(m.getReturnType() + " " + m.getName() + " of " + m.getParameterCount());
        }
        Set<String> promised = facePromised();
        Due.is("methods of the document's face", promised.size(), 38);
        Due.holds("the face is " + built + ", promised is " + promised, built.equals(promised));
        List<Class<?>> classes = new ArrayList<>(Arrays.asList(LampLogs.class.getDeclaredClasses()));
        classes.add(LampLogs.class);
        Due.holds("more than twelve classes", classes.size() <= 12);
        for (Class<?> c : classes) {
            members(c, publicNames);
        }
    }

    private static void members(Class<?> c, Set<String> publicNames) {
        Due.holds(c + " is not static", c == LampLogs.class || Modifier.isStatic(c.getModifiers()));
        int fields = 0;
        for (Field f : c.getDeclaredFields()) {
            boolean isStatic = Modifier.isStatic(f.getModifiers());
            fields += isStatic ? 0 : 1;
            Due.holds(f + " is static and not final", !isStatic || Modifier.isFinal(f.getModifiers()));
            boolean isConstant = Set.of("NONE", "BAD", "STATE", "FULL").contains(f.getName());
            Due.holds(f + " can be seen", c != LampLogs.class || isConstant || Modifier.isPrivate(f.getModifiers()));
        }
        Due.holds(c + " has more than twenty fields", fields <= 20);
        for (Method m : c.getDeclaredMethods()) {
            Due.holds(m + " has more than seven parameters", m.getParameterCount() <= 7);
            Due.holds(m + " bears the name of a public one",
                c == LampLogs.class && Modifier.isPublic(m.getModifiers()) || !publicNames.contains(m.getName()));
        }
    }

    private static void words() throws Exception {
        String source = Files.readString(Path.of("src/main/java/LampLogs.java"));
        Due.holds("a sign beyond 127", source.chars().allMatch(c -> c < 128));
        String code = source.replaceAll("(?s)/\\*.*?\\*/", "").replaceAll("//[^\n]*", "");
        for (String word : FORBIDDEN) {
            Due.holds("the source has " + word, !Pattern.compile(word).matcher(code).find());
        }
    }

    private static void play(LampLogs x) {
        for (int k = 0; k < 15; k++) {
            x.row(k % 8, k % 3, 12);
            x.set(k % 8, 0, 3);
            x.copy(0, 0, 0, 1, 3);
            x.feed('l');
            x.light();
            x.watches(3);
            x.pour(1);
            x.fog(0, k % 9);
            x.undo();
            x.ahead(0, 60, 1);
            x.quarrel(0);
            x.pours(1, 30);
            x.lift(30, 0);
            x.sent(30, 0);
            x.byTurns(4, 20);
            x.who(0, 0, 0, 0, 12);
            x.fogs(0, 0, 0, 0, 12);
            x.sights(0, 1, 0, 0, 12);
            x.fair(60, 3, 0);
            x.drawn(60, 7, 0);
            x.image(0);
            x.restore(0);
            x.ask(1, 0);
            x.count(0);
        }
    }

    /** All calls of a run live in one room: they are to use again what the constructor made. */
    private static void room() {
        if (!(ManagementFactory.getThreadMXBean() instanceof com.sun.management.ThreadMXBean bean)) {
            return;
        }
        String text = "l12,9,50;f1;f2;f3;f4;f5;f6;s11;b10;m9;g8;o7;s6;";
        play(Due.lit(text));
        long id = Thread.currentThread().getId();
        long start = bean.getThreadAllocatedBytes(id);
        LampLogs x = new LampLogs();
        long made = bean.getThreadAllocatedBytes(id);
        for (int i = 0; i < text.length(); i++) {
            x.feed(text.charAt(i));
        }
        x.light();
        play(x);
        long played = bean.getThreadAllocatedBytes(id);
        Due.holds("the constructor makes " + (made - start) + " bytes", made - start < 30000);
        Due.holds("the calls make " + (played - made) + " bytes", played - made < 2000);
    }

    public static void main(String[] args) throws Exception {
        face();
        words();
        room();
        Due.end("LanguageTest");
    }
}
