import java.math.BigInteger;
import java.util.ArrayDeque;
import java.util.ArrayList;
import java.util.Arrays;
import java.util.Deque;
import java.util.List;
import java.util.function.Predicate;

/**
 * The document once more, written apart from LampLogs and by other means (worlds that never change,
 * all sets tried out, real classes for the KINDS), so that a slip in one shows against the other.
 */
final class Model {
    private static final int NUMBER = -1, NO_TOKEN = -2, END = -3;

    private static final class Refusal extends RuntimeException {
        final int answer;

        Refusal(int answer) {
            super(null, null, false, false);
            this.answer = answer;
        }
    }

    /** A SHIP by its KIND; each class says only what its KIND does otherwise. */
    private abstract static class Vessel {
        final int cell;

        Vessel(int cell) {
            this.cell = cell;
        }

        abstract int kind();

        abstract int next(int watch, int last);

        int size(Model m, int number) {
            return size10(m);
        }

        int mark(Model m, int number) {
            return mark20(m, number);
        }

        final int size10(Model m) {
            m.trace.add(10);
            return cell;
        }

        final int mark20(Model m, int number) {
            m.trace.add(20);
            return number;
        }

        boolean hides() {
            return false;
        }

        boolean shownAshore() {
            return true;
        }

        static Vessel of(int kind, int cell) {
            return switch (kind) {
                case 1 -> new Steamer(cell);
                case 2 -> new Barque(cell);
                case 3 -> new Mail(cell);
                case 4 -> new Gull(cell);
                case 5 -> new Boat(cell);
                default -> throw new IllegalStateException("kind " + kind);
            };
        }

        Vessel at(int there) {
            return of(kind(), there);
        }
    }

    private static class Steamer extends Vessel {
        Steamer(int cell) {
            super(cell);
        }

        int kind() {
            return 1;
        }

        int next(int watch, int last) {
            return cell == 0 ? 0 : cell - 1;
        }

        int size(Model m, int number) {
            m.trace.add(11);
            int ten = size10(m);
            return ten + mark(m, number);
        }

        int mark(Model m, int number) {
            m.trace.add(21);
            int twenty = mark20(m, number);
            return twenty + m.world.logged(number);
        }
    }

    private static final class Barque extends Steamer {
        Barque(int cell) {
            super(cell);
        }

        int kind() {
            return 2;
        }

        int next(int watch, int last) {
            return watch % 2 == 1 ? cell : super.next(watch, last);
        }

        int size(Model m, int number) {
            m.trace.add(12);
            return -super.size(m, number);
        }

        int mark(Model m, int number) {
            m.trace.add(24);
            return 2 * super.mark(m, number);
        }
    }

    private static final class Mail extends Steamer {
        Mail(int cell) {
            super(cell);
        }

        int kind() {
            return 3;
        }

        int next(int watch, int last) {
            return new Steamer(super.next(watch, last)).next(watch, last);
        }

        int mark(Model m, int number) {
            m.trace.add(22);
            return super.mark(m, number) - 1000;
        }
    }

    private static class Gull extends Vessel {
        Gull(int cell) {
            super(cell);
        }

        int kind() {
            return 4;
        }

        int step() {
            return 1;
        }

        int next(int watch, int last) {
            int c = cell;
            for (int k = 0; k < step(); k++) {
                if (watch % 2 == 0 && c < last) {
                    c++;
                } else if (watch % 2 == 1 && c > 0) {
                    c--;
                }
            }
            return c;
        }

        int size(Model m, int number) {
            m.trace.add(13);
            return size10(m) - 100;
        }

        int mark(Model m, int number) {
            m.trace.add(23);
            int twenty = mark20(m, number);
            return twenty - size(m, number);
        }

        boolean shownAshore() {
            return false;
        }
    }

    private static final class Boat extends Gull {
        Boat(int cell) {
            super(cell);
        }

        int kind() {
            return 5;
        }

        int step() {
            return 2;
        }

        int size(Model m, int number) {
            m.trace.add(14);
            return 2 * super.size(m, number);
        }

        boolean hides() {
            return cell > 2;
        }
    }

    private record World(int cells, int eyes, int oil, int watch, List<Integer> thicks, List<Vessel> ships) {
        int thick(int w) {
            return thicks.get(w % thicks.size());
        }

        boolean keeperSees(Vessel v) {
            if (v.hides()) {
                return false;
            }
            return v.cell == 0 && v.shownAshore() || v.cell + thick(watch) <= eyes;
        }

        boolean lampSees(Vessel v) {
            if (v.hides()) {
                return false;
            }
            return v.cell == 0 && v.shownAshore() || oil > 0 && v.cell + thick(watch) / 2 <= 4 + oil / 10;
        }

        int logged(int s) {
            return (keeperSees(ships.get(s)) ? 1 : 0) + (lampSees(ships.get(s)) ? 2 : 0);
        }

        int bits(Predicate<Vessel> isIn) {
            int bits = 0;
            for (int s = 0; s < ships.size(); s++) {
                if (isIn.test(ships.get(s))) {
                    bits += 1 << s;
                }
            }
            return bits;
        }

        int differ() {
            return bits(v -> keeperSees(v) != lampSees(v));
        }

        World next() {
            List<Vessel> moved = new ArrayList<>();
            for (Vessel v : ships) {
                moved.add(v.at(v.next(watch, cells - 1)));
            }
            int left = oil - 1;
            if (thick(watch) >= 5) {
                left--;
            }
            return new World(cells, eyes, left < 0 ? 0 : left, watch + 1, thicks, moved);
        }

        World behind(int n) {
            World w = this;
            for (int k = 0; k < n; k++) {
                w = w.next();
            }
            return w;
        }

        World withOil(int o) {
            return new World(cells, eyes, o > 60 ? 60 : o, watch, thicks, ships);
        }

        World withEyes(int e) {
            return new World(cells, e, oil, watch, thicks, ships);
        }

        World withThick(int f, int v) {
            List<Integer> others = new ArrayList<>(thicks);
            others.set(f, v);
            return new World(cells, eyes, oil, watch, others, ships);
        }

        World withShip(int s, Vessel v) {
            List<Vessel> others = new ArrayList<>(ships);
            others.set(s, v);
            return new World(cells, eyes, oil, watch, thicks, others);
        }
    }

    private final int[][] rows = new int[8][];
    private final int[] lanes = new int[8];
    private final StringBuilder tape = new StringBuilder();
    private final Deque<World> acts = new ArrayDeque<>();
    private final World[] images = new World[2];
    private List<Integer> trace = new ArrayList<>();
    private World world;
    private int latestFault;
    private int finding;

    /** The answer of a call by its name; refusals come as they are thrown. */
    long answer(String call, int[] a) {
        try {
            return switch (call) {
                case "row", "set", "copy", "drop" -> rowsCall(call, a);
                case "who", "fogs", "sights" -> logCall(call, a);
                case "feed", "light", "fault", "undo" -> toldCall(call, a);
                case "watches", "pour", "fog", "eyes", "move" -> doneCall(call, a);
                case "ship", "stand", "thick" -> seenCall(call, a);
                case "ahead", "written", "when", "quarrel", "pours" -> aheadCall(call, a);
                case "lift", "sent", "share", "byTurns", "fair", "drawn" -> reckonedCall(call, a);
                default -> askedCall(call, a);
            };
        } catch (Refusal r) {
            return r.answer;
        }
    }

    private static void good(boolean isGood) {
        if (!isGood) {
            throw new Refusal(Due.BAD);
        }
    }

    private static void in(int v, int low, int high) {
        good(low <= v && v <= high);
    }

    private void state(boolean isSo) {
        if (!isSo) {
            throw new Refusal(Due.STATE);
        }
    }

    private void find(boolean isFound, int number) {
        if (isFound) {
            finding = number;
            throw new Refusal(-1000010 - number);
        }
    }

    private void aShip(int s) {
        good(world != null && s >= 0 && s < world.ships.size());
    }

    private void aFog(int f) {
        good(world != null && f >= 0 && f < world.thicks.size());
    }

    private long rowsCall(String call, int[] a) {
        in(a[0], 0, 7);
        long answer;
        switch (call) {
            case "row" -> {
                in(a[1], 0, 2);
                good(a[2] <= 40);
                find(a[2] < 0, 4);
                rows[a[0]] = new int[a[2]];
                lanes[a[0]] = a[1];
                answer = a[2];
            }
            case "set" -> {
                find(rows[a[0]] == null, 1);
                find(a[1] < 0 || a[1] >= rows[a[0]].length, 2);
                int bits = 8 << lanes[a[0]];
                rows[a[0]][a[1]] = a[2] << 32 - bits >> 32 - bits;
                answer = rows[a[0]][a[1]];
            }
            case "copy" -> {
                in(a[2], 0, 7);
                find(rows[a[0]] == null || rows[a[2]] == null, 1);
                find(lanes[a[0]] != lanes[a[2]], 5);
                long n = a[4];
                find(a[1] < 0 || a[3] < 0 || n < 0, 2);
                find(a[1] + n > rows[a[0]].length || a[3] + n > rows[a[2]].length, 2);
                int[] ahead = rows[a[0]].clone();
                for (int k = 0; k < n; k++) {
                    rows[a[2]][a[3] + k] = ahead[a[1] + k];
                }
                answer = n;
            }
            default -> {
                find(rows[a[0]] == null, 1);
                answer = rows[a[0]].length;
                rows[a[0]] = null;
            }
        }
        finding = 0;
        return answer;
    }

    private long logCall(String call, int[] a) {
        if (call.equals("fogs")) {
            aFog(a[0]);
            aShip(a[1]);
        } else {
            aShip(a[0]);
            in(a[1], 0, call.equals("who") ? 1 : 2);
        }
        in(a[2], 0, 7);
        in(a[4], 1, 12);
        find(rows[a[2]] == null, 1);
        find(a[3] < 0 || (long) a[3] + a[4] > rows[a[2]].length, 2);
        finding = 0;
        int[] log = Arrays.copyOfRange(rows[a[2]], a[3], a[3] + a[4]);
        int s = call.equals("fogs") ? a[1] : a[0];
        List<World> tried = new ArrayList<>();
        List<Integer> values = new ArrayList<>();
        if (call.equals("fogs")) {
            for (int v = 0; v <= 9; v++) {
                values.add(v);
                tried.add(world.withThick(a[0], v));
            }
        } else if (call.equals("who") && a[1] == 0) {
            for (int k = 1; k <= 5; k++) {
                values.add(k);
                tried.add(world.withShip(s, Vessel.of(k, world.ships.get(s).cell)));
            }
        } else if (call.equals("who")) {
            for (int c = 0; c < world.cells; c++) {
                values.add(c);
                tried.add(world.withShip(s, world.ships.get(s).at(c)));
            }
        } else {
            for (int v = 0; v <= (a[1] == 0 ? 12 : 60); v++) {
                values.add(v);
                tried.add(a[1] == 0 ? world.withEyes(v) : world.withOil(v));
            }
        }
        List<Integer> fitting = new ArrayList<>();
        for (int t = 0; t < tried.size(); t++) {
            if (fits(tried.get(t), s, log)) {
                fitting.add(values.get(t));
            }
        }
        if (call.equals("sights") && a[1] == 1) {
            return fitting.size();
        }
        if (call.equals("sights") && a[1] == 2) {
            return fitting.isEmpty() ? Due.NONE : fitting.get(0);
        }
        return fitting.stream().mapToInt(v -> 1 << v).sum();
    }

    private static boolean fits(World from, int s, int[] log) {
        for (int k = 1; k <= log.length; k++) {
            if (from.behind(k).logged(s) != log[k - 1]) {
                return false;
            }
        }
        return true;
    }

    private long toldCall(String call, int[] a) {
        switch (call) {
            case "feed":
                in(a[0], 0, 255);
                if (tape.length() == 120) {
                    throw new Refusal(Due.FULL);
                }
                tape.append((char) a[0]);
                return tape.length();
            case "light":
                String text = tape.toString();
                tape.setLength(0);
                return read(text);
            case "fault":
                return latestFault;
            default:
                state(!acts.isEmpty());
                world = acts.removeLast();
                return acts.size();
        }
    }

    private static List<int[]> tokens(String text) {
        List<int[]> tokens = new ArrayList<>();
        int i = 0;
        while (i < text.length()) {
            int j = i + 1;
            boolean figure = text.charAt(i) >= '0' && text.charAt(i) <= '9';
            while (figure && j < text.length() && text.charAt(j) >= '0' && text.charAt(j) <= '9') {
                j++;
            }
            if (!figure) {
                tokens.add(new int[] {i, text.charAt(i), 0});
            } else if (j - i > 2) {
                tokens.add(new int[] {i, NO_TOKEN, 0});
            } else {
                tokens.add(new int[] {i, NUMBER, Integer.parseInt(text.substring(i, j))});
            }
            i = j;
        }
        tokens.add(new int[] {text.length(), END, 0});
        return tokens;
    }

    /** TOKEN by TOKEN; a state is named by what it takes. */
    private long read(String text) {
        List<Integer> law = new ArrayList<>();
        List<Integer> thicks = new ArrayList<>();
        List<Vessel> ships = new ArrayList<>();
        int[] low = {4, 0, 0};
        int[] high = {12, 12, 60};
        int kind = 0;
        String state = "l";
        for (int[] t : tokens(text)) {
            int fault = 0;
            int sort = t[1] < 0 ? 0 : "sbmgo".indexOf(t[1]) + 1;
            switch (state) {
                case "l":
                    fault = t[1] == 'l' ? 0 : 1;
                    state = "law number";
                    break;
                case "law number":
                    fault = t[1] != NUMBER ? 1 : t[2] < low[law.size()] || t[2] > high[law.size()] ? 2 : 0;
                    law.add(t[2]);
                    state = law.size() == 3 ? "; fogs" : ",";
                    break;
                case ",":
                    fault = t[1] == ',' ? 0 : 1;
                    state = "law number";
                    break;
                case "; fogs":
                    fault = t[1] == ';' ? 0 : 1;
                    state = "fogs";
                    break;
                case "thick":
                    fault = t[1] != NUMBER ? 1 : t[2] > 9 ? 2 : 0;
                    thicks.add(t[2]);
                    state = "; fogs";
                    break;
                case "fogs":
                    if (t[1] == 'f') {
                        fault = thicks.size() == 6 ? 3 : 0;
                        state = "thick";
                    } else {
                        fault = sort > 0 && !thicks.isEmpty() ? 0 : 1;
                        kind = sort;
                        state = "at";
                    }
                    break;
                case "at":
                    fault = t[1] != NUMBER ? 1 : t[2] >= law.get(0) ? 2 : 0;
                    if (fault == 0) {
                        ships.add(Vessel.of(kind, t[2]));
                    }
                    state = "; ships";
                    break;
                case "; ships":
                    fault = t[1] == ';' ? 0 : 1;
                    state = "ships";
                    break;
                default:
                    if (t[1] == END) {
                        break;
                    }
                    fault = sort == 0 ? 1 : ships.size() == 6 ? 3 : 0;
                    kind = sort;
                    state = "at";
            }
            if (fault != 0) {
                latestFault = fault;
                return -1000100 - t[0];
            }
        }
        world = new World(law.get(0), law.get(1), law.get(2), 0, thicks, ships);
        acts.clear();
        return ships.size();
    }

    private void act(World then) {
        acts.addLast(world);
        if (acts.size() > 24) {
            acts.removeFirst();
        }
        world = then;
    }

    private long doneCall(String call, int[] a) {
        switch (call) {
            case "watches":
                state(world != null);
                in(a[0], 1, 24);
                if (world.watch + a[0] > 999) {
                    throw new Refusal(Due.FULL);
                }
                for (int k = 0; k < a[0]; k++) {
                    act(world.next());
                }
                return world.differ();
            case "pour":
                state(world != null);
                in(a[0], 1, 60);
                act(world.withOil(world.oil + a[0]));
                return world.oil;
            case "fog":
                aFog(a[0]);
                in(a[1], 0, 9);
                int thick = world.thicks.get(a[0]);
                act(world.withThick(a[0], a[1]));
                return thick;
            case "eyes":
                state(world != null);
                in(a[0], 0, 12);
                int eyes = world.eyes;
                act(world.withEyes(a[0]));
                return eyes;
            default:
                aShip(a[0]);
                in(a[1], 0, world.cells - 1);
                Vessel v = world.ships.get(a[0]);
                state(v.cell != a[1]);
                act(world.withShip(a[0], v.at(a[1])));
                return v.cell;
        }
    }

    private long seenCall(String call, int[] a) {
        if (call.equals("ship")) {
            aShip(a[0]);
            in(a[1], 0, 2);
            return switch (a[1]) {
                case 0 -> world.ships.get(a[0]).cell;
                case 1 -> world.logged(a[0]);
                default -> world.next().ships.get(a[0]).cell;
            };
        }
        state(world != null);
        if (call.equals("thick")) {
            in(a[0], 0, 60);
            return world.thick(world.watch + a[0]);
        }
        in(a[0], 0, 6);
        return switch (a[0]) {
            case 0 -> world.bits(world::keeperSees);
            case 1 -> world.bits(world::lampSees);
            case 2 -> world.differ();
            case 3 -> world.eyes;
            case 4 -> world.oil;
            case 5 -> world.cells;
            default -> world.thick(world.watch);
        };
    }

    private long aheadCall(String call, int[] a) {
        switch (call) {
            case "ahead": {
                aShip(a[0]);
                in(a[1], 0, 60);
                in(a[2], 0, 1);
                World then = world.behind(a[1]);
                return a[2] == 0 ? then.ships.get(a[0]).cell : then.logged(a[0]);
            }
            case "written": {
                state(world != null);
                in(a[0], 0, 60);
                in(a[1], 0, 3);
                World then = world.behind(a[0]);
                return switch (a[1]) {
                    case 0 -> then.bits(then::keeperSees);
                    case 1 -> then.bits(then::lampSees);
                    case 2 -> then.differ();
                    default -> then.oil;
                };
            }
            case "when":
                aShip(a[0]);
                in(a[1], 0, 1);
                for (int k = 0; k <= 60; k++) {
                    World then = world.behind(k);
                    if (a[1] == 0 ? then.ships.get(a[0]).cell == 0 : (then.differ() >> a[0]) % 2 == 1) {
                        return k;
                    }
                }
                return Due.NONE;
            case "quarrel":
                state(world != null);
                in(a[0], 0, 1);
                for (int k = 0; k <= 60; k++) {
                    for (int s = 0; s < world.ships.size(); s++) {
                        if ((world.behind(k).differ() >> s) % 2 == 1) {
                            return a[0] == 0 ? k : s;
                        }
                    }
                }
                return Due.NONE;
            default:
                aShip(a[0]);
                in(a[1], 0, 30);
                for (int o = 0; o <= 60; o++) {
                    if (world.withOil(world.oil + o).behind(a[1]).logged(a[0]) >= 2) {
                        return o;
                    }
                }
                return Due.NONE;
        }
    }

    private long reckonedCall(String call, int[] a) {
        if (call.equals("share")) {
            aFog(a[0]);
            in(a[1], 0, 999);
            return shares(a[1])[a[0]];
        }
        state(world != null);
        switch (call) {
            case "lift": {
                in(a[0], 1, 30);
                in(a[1], 0, 1);
                int[] often = new int[world.thicks.size()];
                for (int f = 0; f < often.length; f++) {
                    for (int k = 1; k <= a[0]; k++) {
                        often[f] += Integer.bitCount(world.withThick(f, 0).behind(k).differ());
                    }
                }
                int least = Arrays.stream(often).min().getAsInt();
                int first = 0;
                while (often[first] != least) {
                    first++;
                }
                return a[1] == 0 ? first : least;
            }
            case "sent":
                in(a[0], 1, 30);
                in(a[1], 0, 1);
                for (int size = 0; size <= 6; size++) {
                    for (int away = 0; away < 64; away++) {
                        if (Integer.bitCount(away) == size && isQuiet(away, a[0])) {
                            return a[1] == 0 ? size : away;
                        }
                    }
                }
                throw new IllegalStateException("none to send");
            case "byTurns":
                in(a[0], 0, 4);
                in(a[1], 1, 20);
                return turns(world, 0, a[0], a[1]);
            case "fair": {
                in(a[0], 0, 60);
                in(a[1], 0, 10);
                in(a[2], 0, 1);
                BigInteger above = cases(world, 0, a[0], a[1]);
                BigInteger below = BigInteger.TEN.pow(world.thicks.size());
                BigInteger common = above.gcd(below);
                return (a[2] == 0 ? above : below).divide(common).longValueExact();
            }
            default:
                in(a[0], 0, 60);
                in(a[1], 1, 999999);
                in(a[2], 0, 1);
                return years(a[0], a[1], a[2]);
        }
    }

    private int[] shares(int n) {
        int all = world.thicks.stream().mapToInt(t -> t).sum();
        int[] got = new int[world.thicks.size()];
        if (all == 0) {
            return got;
        }
        int over = n;
        for (int f = 0; f < got.length; f++) {
            got[f] = n * world.thicks.get(f) / all;
            over -= got[f];
        }
        for (int f = 0; f < got.length && over > 0; f++) {
            if (world.thicks.get(f) != 0) {
                got[f]++;
                over--;
            }
        }
        if (over != 0) {
            throw new IllegalStateException("over: " + over);
        }
        return got;
    }

    private boolean isQuiet(int away, int n) {
        for (int k = 1; k <= n; k++) {
            if ((world.behind(k).differ() & ~away) != 0) {
                return false;
            }
        }
        return true;
    }

    private static int turns(World w, int turn, int n, int m) {
        if (turn == n) {
            World then = w.behind(m);
            return Integer.bitCount(then.bits(then::lampSees)) - Integer.bitCount(then.bits(then::keeperSees));
        }
        int idle = turns(w, turn + 1, n, m);
        if (turn % 2 == 0) {
            return Math.max(idle, turns(w.withOil(w.oil + 5), turn + 1, n, m));
        }
        return Math.min(idle, turns(w.withEyes(w.eyes == 0 ? 0 : w.eyes - 1), turn + 1, n, m));
    }

    private static BigInteger cases(World w, int fog, int n, int p) {
        if (fog == w.thicks.size()) {
            return w.behind(n).differ() == 0 ? BigInteger.ONE : BigInteger.ZERO;
        }
        BigInteger lifted = cases(w.withThick(fog, 0), fog + 1, n, p).multiply(BigInteger.valueOf(p));
        return lifted.add(cases(w, fog + 1, n, p).multiply(BigInteger.valueOf(10 - p)));
    }

    private long years(int n, int seed, int what) {
        BigInteger x = BigInteger.valueOf(seed);
        World w = world;
        int differed = 0;
        for (int k = 0; k < n; k++) {
            x = x.multiply(BigInteger.valueOf(16807)).mod(BigInteger.valueOf(2147483647));
            int draw = x.intValueExact();
            if (draw % 3 == 0) {
                w = w.withThick(draw % w.thicks.size(), draw % 10);
            }
            int s = draw % w.ships.size();
            if (w.ships.get(s).cell == 0) {
                w = w.withShip(s, w.ships.get(s).at(w.cells - 1));
            }
            if (w.oil == 0) {
                w = w.withOil(9);
            }
            w = w.next();
            differed += Integer.bitCount(w.differ());
        }
        return what == 0 ? differed : w.oil;
    }

    private long askedCall(String call, int[] a) {
        switch (call) {
            case "image":
                in(a[0], 0, 1);
                state(world != null);
                images[a[0]] = world;
                return 1;
            case "restore":
                in(a[0], 0, 1);
                state(images[a[0]] != null);
                world = images[a[0]];
                acts.clear();
                return 1;
            case "kind":
                aShip(a[0]);
                return world.ships.get(a[0]).kind();
            case "as":
                aShip(a[0]);
                in(a[1], 0, 5);
                Class<?>[] classes = {Vessel.class, Steamer.class, Barque.class, Mail.class, Gull.class, Boat.class};
                find(!classes[a[1]].isInstance(world.ships.get(a[0])), 3);
                finding = 0;
                return a[0];
            case "ask":
                aShip(a[0]);
                in(a[1], 0, 1);
                trace = new ArrayList<>();
                Vessel v = world.ships.get(a[0]);
                return a[1] == 0 ? v.size(this, a[0]) : v.mark(this, a[0]);
            case "trace":
                return a[0] >= 0 && a[0] < trace.size() && a[0] < 16 ? trace.get(a[0]) : Due.NONE;
            case "status":
                return finding;
            default:
                in(a[0], 0, 7);
                return counted(a[0]);
        }
    }

    private long counted(int what) {
        if (what == 0) {
            return Arrays.stream(rows).filter(r -> r != null).count();
        }
        if (what == 6) {
            return acts.size();
        }
        if (what == 7) {
            return tape.length();
        }
        if (world == null) {
            return 0;
        }
        return switch (what) {
            case 1 -> world.ships.size();
            case 2 -> world.thicks.size();
            case 3 -> world.watch;
            case 4 -> world.oil;
            default -> world.ships.stream().filter(v -> v.cell == 0).count();
        };
    }
}
