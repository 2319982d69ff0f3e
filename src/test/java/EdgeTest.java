import java.util.ArrayList;
import java.util.Arrays;
import java.util.List;

/**
 * Every call with every choice of edges for its arguments, several wrong at once too: it may never throw, and of
 * the refusals that fit the first one told is due. The answers that are due are the model's.
 */
public final class EdgeTest {
    /** An object is renewed well ahead of its 512th call, with room for what brings it to its state. */
    private static final int CALLS_OF_ONE = 400;
    private static final String FULL_LIGHT = "l12,9,50;f1;f5;f0;f9;f4;f6;s11;b10;m9;g8;o2;s0;";
    private static final String LEAST_LIGHT = "l4,0,0;f0;g0;";

    /** Brings a new object and its model to a state. */
    private enum State {
        NEW, ROWS_ALONE, LEAST, FULL_OF_ALL, FAR_ON;

        void reach(Pair p) {
            if (this == NEW) {
                return;
            }
            if (this != LEAST) {
                p.call("row", 0, 0, 40);
                p.call("row", 1, 1, 12);
                p.call("row", 7, 2, 0);
            }
            if (this == ROWS_ALONE) {
                return;
            }
            p.read(this == LEAST ? LEAST_LIGHT : FULL_LIGHT);
            if (this == FULL_OF_ALL) {
                p.call("image", 0);
                p.call("watches", 3);
                p.call("ask", 4, 1);
                p.call("set", 0, 0, 3);
            }
            if (this == FAR_ON) {
                comeToWatch998(p);
            }
        }

        /** There one WATCH more can be, and no second. */
        private static void comeToWatch998(Pair p) {
            for (int k = 0; k < 41; k++) {
                p.call("watches", 24);
            }
            p.call("watches", 14);
            p.call("count", 3);
        }
    }

    private static final class Pair {
        final LampLogs real = new LampLogs();
        final Model model = new Model();
        final State state;
        int calls;

        Pair(State state) {
            this.state = state;
            state.reach(this);
        }

        void call(String name, int... a) {
            calls++;
            StringBuilder told = new StringBuilder(name);
            for (int v : a) {
                told.append(' ').append(v);
            }
            long want = model.answer(name, a);
            try {
                Due.is(told + " in state " + state, ModelTest.call(real, name, a), want);
            } catch (RuntimeException thrown) {
                Due.holds(told + " in state " + state + " threw " + thrown, false);
            }
        }

        void read(String text) {
            for (char c : text.toCharArray()) {
                call("feed", c);
            }
            call("light");
        }
    }

    private static int[] edges(int highest) {
        return new int[] {Integer.MIN_VALUE, -1, 0, 1, highest, highest + 1, Integer.MAX_VALUE};
    }

    private static List<int[]> choices(int[] highest) {
        List<int[]> choices = new ArrayList<>();
        choices.add(new int[0]);
        for (int h : highest) {
            List<int[]> longer = new ArrayList<>();
            for (int[] begun : choices) {
                for (int edge : edges(h)) {
                    int[] one = Arrays.copyOf(begun, begun.length + 1);
                    one[begun.length] = edge;
                    longer.add(one);
                }
            }
            choices = longer;
        }
        return choices;
    }

    private static void sweep(State state) {
        for (int c = 0; c < ModelTest.NAMES.length; c++) {
            Pair p = new Pair(state);
            for (int[] a : choices(ModelTest.HIGHEST[c])) {
                if (p.calls >= CALLS_OF_ONE) {
                    p = new Pair(state);
                }
                p.call(ModelTest.NAMES[c], a);
                p.call("status");
            }
        }
    }

    public static void main(String[] args) {
        for (State state : State.values()) {
            sweep(state);
        }
        Due.end("EdgeTest");
    }
}
