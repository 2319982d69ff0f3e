import java.lang.reflect.InvocationTargetException;
import java.lang.reflect.Method;
import java.util.ArrayList;
import java.util.Arrays;
import java.util.HashMap;
import java.util.List;
import java.util.Map;
import java.util.Set;

/**
 * A run of calls on a new object. It is kept, so that twins of the object can be made by playing it again: a call
 * is tried on a twin, and all that can be seen of the twin is held against what is seen of one without the call.
 */
final class Run {
    /** What the document allows one object. */
    private static final int MOST_CALLS = 512;
    private static final Set<String> WITH_STATUS = Set.of("row", "set", "copy", "drop", "who", "fogs", "sights", "as");
    private static final Map<String, Method> FACE = face();
    /** A gull by which the ITEMS 0 to 3 can be told apart. */
    private static final String READER = "l4,5,9;f0;g1;";

    private record Call(String name, int[] a) {
        @Override
        public String toString() {
            return name + Arrays.toString(a);
        }
    }

    private static final class Player {
        private final LampLogs x = new LampLogs();
        private int calls;

        long call(String name, int... a) {
            calls++;
            Due.holds("an object was used for more than 512 calls", calls <= MOST_CALLS);
            Object[] boxed = Arrays.stream(a).boxed().toArray();
            try {
                return ((Number) FACE.get(name).invoke(x, boxed)).longValue();
            } catch (InvocationTargetException thrown) {
                Due.holds(new Call(name, a) + " threw " + thrown.getCause(), false);
                return Long.MIN_VALUE;
            } catch (IllegalAccessException closed) {
                throw new IllegalStateException(closed);
            }
        }

        void read(String text) {
            for (char c : text.toCharArray()) {
                call("feed", c);
            }
            call("light");
        }
    }

    private final Player real = new Player();
    private final List<Call> played = new ArrayList<>();
    /** The look at the run as it is; null, if calls have come since. */
    private List<String> looked;

    private static Map<String, Method> face() {
        Map<String, Method> face = new HashMap<>();
        for (Method m : LampLogs.class.getMethods()) {
            if (m.getDeclaringClass() == LampLogs.class) {
                face.put(m.getName(), m);
            }
        }
        return face;
    }

    static Run lit(String text) {
        Run run = new Run();
        run.read(text);
        return run;
    }

    /** A text that has no FAULT comes to be the LIGHT. */
    void read(String text) {
        for (char c : text.toCharArray()) {
            play("feed", c);
        }
        long ships = play("light");
        Due.holds(text + " is not read: " + ships, ships > 0);
    }

    /** A call that goes on in the run, whatever it answers. */
    long play(String name, int... a) {
        looked = null;
        played.add(new Call(name, a));
        return real.call(name, a);
    }

    /** A call that goes on in the run, and its answer. */
    void is(long want, String name, int... a) {
        Due.is(told(name, a), play(name, a), want);
    }

    /** A call that answers so and changes nothing, but status() where the document says so: refused, found, foretold. */
    void still(long want, String name, int... a) {
        Player twin = twin();
        // Found first, so that status() has something to lose.
        twin.call("row", 0, 0, -1);
        long fault = twin.call("fault");
        long got = twin.call(name, a);
        Due.is(told(name, a), got, want);
        Due.is(told(name, a) + ", then status()", twin.call("status"), statusDue(name, got));
        Due.is(told(name, a) + ", then fault()", twin.call("fault"), fault);
        unchanged(told(name, a), new Call(name, a));
    }

    /** A text that is read with a FAULT, and changes nothing but fault(); the tape is empty ahead of it. */
    void faulted(String text, int place, int number) {
        Call[] more = new Call[text.length() + 1];
        for (int i = 0; i < text.length(); i++) {
            more[i] = new Call("feed", new int[] {text.charAt(i)});
        }
        Player twin = twin(Arrays.copyOf(more, text.length()));
        long status = twin.call("status");
        Due.is("light() of " + text, twin.call("light"), -1000100 - place);
        Due.is("fault() of " + text, twin.call("fault"), number);
        Due.is("bytes left of " + text, twin.call("count", 7), 0);
        Due.is("status() behind " + text, twin.call("status"), status);
        more[text.length()] = new Call("light", new int[0]);
        unchanged(text, more);
    }

    private static long statusDue(String name, long answer) {
        boolean isRefused = answer == Due.BAD || answer == Due.STATE || answer == Due.FULL;
        if (isRefused || !WITH_STATUS.contains(name)) {
            return 4;
        }
        boolean isFound = answer <= Due.NULL && answer >= Due.STORE;
        return isFound ? -1000010 - answer : 0;
    }

    private void unchanged(String what, Call... more) {
        if (looked == null) {
            looked = look();
        }
        List<String> then = look(more);
        Due.holds(what + " changed " + looked + " to " + then, looked.equals(then));
    }

    private String told(String name, int... a) {
        return new Call(name, a) + " behind " + played.size() + " calls";
    }

    private Player twin(Call... more) {
        Player twin = new Player();
        for (Call c : played) {
            twin.call(c.name, c.a);
        }
        for (Call c : more) {
            twin.call(c.name, c.a);
        }
        return twin;
    }

    /** All that can be seen, each part on a twin of its own, since most ways to look change what is there. */
    private List<String> look(Call... more) {
        List<String> seen = new ArrayList<>();
        seen.add(standing(twin(more)));
        seen.add(foretold(twin(more)));
        seen.add(undone(twin(more)));
        seen.add(kept(twin(more)));
        for (int r = 0; r < 8; r++) {
            seen.add(rowOf(twin(more), r));
        }
        return seen;
    }

    private static String standing(Player p) {
        StringBuilder seen = new StringBuilder();
        for (int what = 0; what < 8; what++) {
            seen.append(p.call("count", what)).append(' ');
        }
        for (int i = 0; i < 16; i++) {
            seen.append(p.call("trace", i)).append(' ');
        }
        return seen.append(light(p)).toString();
    }

    private static String light(Player p) {
        StringBuilder seen = new StringBuilder();
        seen.append(p.call("count", 3)).append(' ');
        for (int what = 3; what < 6; what++) {
            seen.append(p.call("stand", what)).append(' ');
        }
        for (int k = 0; k < 6; k++) {
            seen.append(p.call("thick", k)).append(' ').append(p.call("ship", k, 0)).append(' ');
            seen.append(p.call("kind", k)).append(' ');
        }
        return seen.toString();
    }

    private static String foretold(Player p) {
        StringBuilder seen = new StringBuilder();
        for (int k = 0; k < 3; k++) {
            seen.append(p.call("ahead", k, 5, 0)).append(' ').append(p.call("written", 5, k + 1)).append(' ');
            seen.append(p.call("when", k, 1)).append(' ').append(p.call("pours", k, 9)).append(' ');
        }
        seen.append(p.call("quarrel", 0)).append(' ').append(p.call("lift", 9, 1)).append(' ');
        seen.append(p.call("sent", 9, 1)).append(' ').append(p.call("byTurns", 2, 5)).append(' ');
        seen.append(p.call("fair", 5, 3, 0)).append(' ').append(p.call("drawn", 9, 5, 0)).append(' ');
        return seen.toString();
    }

    private static String undone(Player p) {
        StringBuilder seen = new StringBuilder();
        for (int k = 0; k <= 24; k++) {
            long left = p.call("undo");
            seen.append(left).append(": ");
            if (left < 0) {
                return seen.toString();
            }
            seen.append(p.call("count", 3)).append(' ').append(p.call("count", 4)).append(' ');
            seen.append(p.call("stand", 3)).append(' ');
            for (int i = 0; i < 6; i++) {
                seen.append(p.call("thick", i)).append(' ').append(p.call("ship", i, 0)).append(' ');
            }
        }
        return seen.toString();
    }

    private static String kept(Player p) {
        StringBuilder seen = new StringBuilder();
        for (int k = 0; k < 2; k++) {
            seen.append(p.call("restore", k)).append(": ").append(light(p));
        }
        seen.append(p.call("light")).append(' ');
        return seen.append(light(p)).toString();
    }

    /** A ROW as its LANE and its ITEMS, those that are not 0 to 3 as a question mark: "0 0123?", or "missing". */
    String row(int r) {
        return rowOf(twin(), r);
    }

    private static String rowOf(Player p, int r) {
        p.call("light");
        p.read(READER);
        StringBuilder items = new StringBuilder();
        for (int i = 0; i < 40; i++) {
            long byOils = p.call("sights", 0, 1, r, i, 1);
            if (byOils == Due.NULL) {
                return "missing";
            }
            if (byOils == Due.PLACE) {
                break;
            }
            items.append(item(byOils, p.call("sights", 0, 0, r, i, 1), p.call("who", 0, 0, r, i, 1)));
        }
        String lane = laneOf(p, r);
        Due.is("how many ITEMS of ROW " + r, p.call("drop", r), items.length());
        return lane + " " + items;
    }

    /** Behind one WATCH the gull is in CELL 2: its OIL tells 1 and 3, its EYES 2 and 3, its KIND (a boat's) 0. */
    private static char item(long byOils, long byEyes, long byKinds) {
        if (byOils == 59) {
            return '3';
        }
        if (byOils == 2) {
            return '1';
        }
        if (byEyes == 3) {
            return '2';
        }
        return byKinds == 32 ? '0' : '?';
    }

    private static String laneOf(Player p, int r) {
        int other = r == 0 ? 1 : 0;
        for (int lane = 0; lane < 3; lane++) {
            p.call("row", other, lane, 0);
            if (p.call("copy", r, 0, other, 0, 0) == 0) {
                return "" + lane;
            }
        }
        return "no lane";
    }
}
