import java.lang.reflect.Array;
import java.lang.reflect.Field;
import java.lang.reflect.Modifier;
import java.nio.file.Files;
import java.nio.file.Path;
import java.util.ArrayList;
import java.util.Collections;
import java.util.IdentityHashMap;
import java.util.List;
import java.util.Map;
import java.util.Set;
import java.util.TreeMap;
import java.util.TreeSet;
import java.util.regex.Matcher;
import java.util.regex.Pattern;

/** What can be measured of LANGUAGE.md: the library, length of methods, depth of calls, room; and README's example. */
public final class SourceTest {
    private static final Set<String> LIBRARY = Set.of(
        "Math.max", "Math.min", "Integer.bitCount", "Integer.numberOfTrailingZeros", "System.arraycopy");
    private static final int LONGEST = 60, DEEPEST = 8;
    /** So that a run of some thousand objects of the class still fits the room. */
    private static final int MOST_OBJECTS = 200, MOST_ELEMENTS = 2400;
    private static final Pattern HEAD = Pattern.compile(
        "(?m)^( {4}| {8})(?!  )(?:(?:public|private|static|final) )*(?:(?:int|long|boolean|void) )?(\\w+)\\([^()]*\\) \\{$");
    private static final Set<String> NO_METHODS = Set.of("if", "for", "while", "switch");

    private SourceTest() {
    }

    private static String code() throws Exception {
        String source = Files.readString(Path.of("src/main/java/LampLogs.java"));
        return source.replaceAll("(?s)/\\*.*?\\*/", "").replaceAll("//[^\n]*", "");
    }

    private static void library(String code) {
        Matcher m = Pattern.compile("\\b[A-Z][A-Za-z]+\\.[a-z]\\w*").matcher(code);
        while (m.find()) {
            Due.holds("the library has no " + m.group(), LIBRARY.contains(m.group()));
        }
    }

    /** The body of each method by its name; no two may share one, or the depth of calls could not be told. */
    private static Map<String, String> bodies(String code) {
        Map<String, String> bodies = new TreeMap<>();
        Matcher m = HEAD.matcher(code);
        while (m.find()) {
            if (NO_METHODS.contains(m.group(2))) {
                continue;
            }
            int end = code.indexOf("\n" + m.group(1) + "}\n", m.end());
            String body = code.substring(m.end(), Math.max(m.end(), end));
            Due.holds("the end of " + m.group(2) + " is not seen", end > 0);
            Due.holds("two methods are named " + m.group(2), bodies.put(m.group(2), body) == null);
            Due.holds(m.group(2) + " is too long", body.lines().count() + 2 <= LONGEST);
        }
        return bodies;
    }

    private static Set<String> calledIn(String body, Set<String> names) {
        Set<String> called = new TreeSet<>();
        Matcher m = Pattern.compile("((?:Math|Integer|System)\\.)?\\b(\\w+)\\(").matcher(body);
        while (m.find()) {
            if (m.group(1) != null || names.contains(m.group(2))) {
                called.add(m.group(1) == null ? m.group(2) : m.group(1) + m.group(2));
            }
        }
        return called;
    }

    /** How many calls stand open at once below a method, itself too; recursion counts once. */
    private static int depth(String name, Map<String, String> bodies, List<String> open) {
        if (!bodies.containsKey(name)) {
            return 1;
        }
        open.add(name);
        int below = 0;
        for (String called : calledIn(bodies.get(name), bodies.keySet())) {
            if (!open.contains(called)) {
                below = Math.max(below, depth(called, bodies, open));
            }
        }
        open.remove(open.size() - 1);
        return below + 1;
    }

    private static void depths(Map<String, String> bodies) {
        Due.holds("only " + bodies.size() + " methods are seen", bodies.size() > 90);
        for (String name : bodies.keySet()) {
            int deep = depth(name, bodies, new ArrayList<>());
            Due.holds(name + " goes " + deep + " deep", deep <= DEEPEST);
        }
    }

    /** Objects and arrays that hang on one, and their fields and elements. */
    private static long[] roomOf(Object first) throws Exception {
        Set<Object> seen = Collections.newSetFromMap(new IdentityHashMap<>());
        List<Object> found = new ArrayList<>();
        found.add(first);
        seen.add(first);
        long elements = 0;
        for (int at = 0; at < found.size(); at++) {
            Object one = found.get(at);
            List<Object> parts = one.getClass().isArray() ? itemsOf(one) : fieldsOf(one);
            elements += parts.size();
            for (Object part : parts) {
                boolean isNumber = part == null || part instanceof Number || part instanceof Boolean;
                if (!isNumber && seen.add(part)) {
                    found.add(part);
                }
            }
        }
        return new long[] {found.size(), elements};
    }

    private static List<Object> itemsOf(Object array) {
        List<Object> items = new ArrayList<>();
        for (int i = 0; i < Array.getLength(array); i++) {
            items.add(Array.get(array, i));
        }
        return items;
    }

    private static List<Object> fieldsOf(Object one) throws Exception {
        List<Object> values = new ArrayList<>();
        for (Field f : one.getClass().getDeclaredFields()) {
            if (!Modifier.isStatic(f.getModifiers())) {
                f.setAccessible(true);
                values.add(f.get(one));
            }
        }
        return values;
    }

    private static void room() throws Exception {
        long[] room = roomOf(new LampLogs());
        Due.holds("a new object is made of " + room[0] + " objects", room[0] > 1 && room[0] <= MOST_OBJECTS);
        Due.holds("a new object has " + room[1] + " elements", room[1] > 1 && room[1] <= MOST_ELEMENTS);
    }

    /** What README shows must be what the class answers. */
    private static void readme() throws Exception {
        String readme = Files.readString(Path.of("README.md"));
        String text = "l10,6,25;f4;f0;f6;s3;b7;m9;g0;o2;s0;";
        LampLogs x = new LampLogs();
        Due.feed(x, text);
        String[] shown = {
            "\"" + text + "\"",
            "x.light();          // " + x.light() + " SHIPS",
            "x.stand(2);         // on whom the logs DIFFER now: " + x.stand(2) + ", SHIP 0",
            "x.watches(2);       // " + x.watches(2) + ": SHIPS 0 and 4",
            "x.undo();           // " + x.undo() + " ACT can be undone yet",
            "x.fair(1, 5, 0);    // " + x.fair(1, 5, 0) + " above, and x.fair(1, 5, 1) " + x.fair(1, 5, 1) + " below",
            "x.row(0, 0, 2);     // ROW 0, of bytes, with " + x.row(0, 0, 2) + " ITEMS",
            "x.set(0, 0, " + x.set(0, 0, x.ahead(0, 1, 1)) + ");",
            "x.set(0, 1, " + x.set(0, 1, x.ahead(0, 2, 1)) + ");",
            "x.who(0, 1, 0, 0, 2);    // " + x.who(0, 1, 0, 0, 2) + ": the CELLS",
            "x.drop(1);          // " + x.drop(1) + ": ROW 1 is missing",
            "x.status();         // " + x.status() + ": the FINDING"};
        for (String line : shown) {
            Due.holds("README does not show: " + line, readme.contains(line));
        }
    }

    public static void main(String[] args) throws Exception {
        String code = code();
        library(code);
        depths(bodies(code));
        room();
        readme();
        Due.end("SourceTest");
    }
}
