/** A lighthouse with two logs, the keeper's and the lamp's; the document explains every word in capitals. */
public final class LampLogs {
    public static final int NONE = -1000000, BAD = -1000001, STATE = -1000002, FULL = -1000003;

    private static final int FOUND_BASE = -1000010, FAULT_BASE = -1000100;
    private static final int NO_ROW = 1, NO_PLACE = 2, NO_SUCH_KIND = 3, NO_SIZE = 4, NO_STORE = 5;

    private static final int MOST_ROWS = 8, MOST_ITEMS = 40, MOST_LANES = 3;
    private static final int MOST_BYTES = 120, MOST_FOGS = 6, MOST_SHIPS = 6, MOST_ACTS = 24, MOST_IMAGES = 2;
    private static final int MOST_CELLS = 12, MOST_EYES = 12, MOST_OIL = 60, MOST_THICK = 9;
    private static final int MOST_TRACE = 16, DEEPEST_ASK = 12, LAST_WATCH = 999, FAR = 60, NEAR = 30;

    private static final int STEAMER = 1, BARQUE = 2, MAIL = 3, GULL = 4, BOAT = 5, MOST_KINDS = 6;
    private static final int BY_KEEPER = 0, BY_LAMP = 1, BY_ONE = 2;
    private static final int ASK_SIZE = 0, ASK_MARK = 1;

    private static final int[] PARENT = {0, 0, 1, 1, 0, 4};
    private static final int[] SIZE_BODY = {10, 11, 12, 11, 13, 14};
    private static final int[] MARK_BODY = {20, 21, 24, 22, 23, 23};

    private final Row[] rows = new Row[MOST_ROWS];
    private final Tape tape = new Tape();
    private final Light now = new Light();
    // What is foretold is played on these two, so that no call makes anything.
    private final Light probe = new Light();
    private final Light later = new Light();
    private final Acts acts = new Acts();
    private final Light[] images = new Light[MOST_IMAGES];
    private final int[] steps = new int[MOST_TRACE];
    private int stepCount;
    private int latestFault;
    private int latestFinding;

    public LampLogs() {
        for (int r = 0; r < MOST_ROWS; r++) {
            rows[r] = new Row();
        }
        for (int k = 0; k < MOST_IMAGES; k++) {
            images[k] = new Light();
        }
    }

    // ---- rows

    public int row(int row, int lane, int n) {
        if (!isBelow(row, MOST_ROWS) || !isBelow(lane, MOST_LANES) || n > MOST_ITEMS) {
            return BAD;
        }
        if (n < 0) {
            return found(NO_SIZE);
        }
        rows[row].begin(lane, n);
        return unfound(n);
    }

    public int set(int row, int i, int v) {
        if (!isBelow(row, MOST_ROWS)) {
            return BAD;
        }
        Row one = rows[row];
        int finding = one.findingOf(i, 1);
        if (finding != 0) {
            return found(finding);
        }
        return unfound(one.put(i, v));
    }

    public int copy(int a, int i, int b, int j, int n) {
        if (!isBelow(a, MOST_ROWS) || !isBelow(b, MOST_ROWS)) {
            return BAD;
        }
        Row from = rows[a];
        Row to = rows[b];
        if (from.missing || to.missing) {
            return found(NO_ROW);
        }
        if (from.lane != to.lane) {
            return found(NO_STORE);
        }
        if (!from.hasSpan(i, n) || !to.hasSpan(j, n)) {
            return found(NO_PLACE);
        }
        System.arraycopy(from.items, i, to.items, j, n);
        return unfound(n);
    }

    public int drop(int row) {
        if (!isBelow(row, MOST_ROWS)) {
            return BAD;
        }
        Row one = rows[row];
        if (one.missing) {
            return found(NO_ROW);
        }
        one.missing = true;
        return unfound(one.length);
    }

    // ---- what is told

    public int feed(int letter) {
        if (!isBelow(letter, 256)) {
            return BAD;
        }
        if (tape.length >= MOST_BYTES) {
            return FULL;
        }
        return tape.append(letter);
    }

    public int light() {
        boolean isRead = tape.readInto(probe);
        tape.length = 0;
        if (!isRead) {
            latestFault = tape.faultNumber;
            return FAULT_BASE - tape.faultPlace;
        }
        now.takeFrom(probe);
        acts.forget();
        return now.shipCount;
    }

    public int fault() {
        return latestFault;
    }

    public int undo() {
        if (acts.kept < 1) {
            return STATE;
        }
        return acts.takeBack(now);
    }

    // ---- what is done

    public int watches(int n) {
        if (!now.isLit()) {
            return STATE;
        }
        if (!isWithin(n, 1, MOST_ACTS)) {
            return BAD;
        }
        if (now.watch + n > LAST_WATCH) {
            return FULL;
        }
        for (int k = 0; k < n; k++) {
            acts.keep(now);
            now.passWatch();
        }
        return now.shipsSeen(BY_ONE);
    }

    public int pour(int n) {
        if (!now.isLit()) {
            return STATE;
        }
        if (!isWithin(n, 1, MOST_OIL)) {
            return BAD;
        }
        acts.keep(now);
        now.addOil(n);
        return now.oil;
    }

    public int fog(int fog, int v) {
        if (!isBelow(fog, now.fogCount) || !isWithin(v, 0, MOST_THICK)) {
            return BAD;
        }
        acts.keep(now);
        int was = now.thicks[fog];
        now.thicks[fog] = v;
        return was;
    }

    public int eyes(int v) {
        if (!now.isLit()) {
            return STATE;
        }
        if (!isWithin(v, 0, MOST_EYES)) {
            return BAD;
        }
        acts.keep(now);
        int were = now.eyesight;
        now.eyesight = v;
        return were;
    }

    public int move(int ship, int cell) {
        if (!isBelow(ship, now.shipCount) || !isBelow(cell, now.cellCount)) {
            return BAD;
        }
        int was = now.places[ship];
        if (was == cell) {
            return STATE;
        }
        acts.keep(now);
        now.places[ship] = cell;
        return was;
    }

    public int ship(int ship, int what) {
        if (!isBelow(ship, now.shipCount)) {
            return BAD;
        }
        switch (what) {
            case 0: return now.places[ship];
            case 1: return now.loggedOf(ship);
            case 2: return now.nextPlaceOf(ship);
            default: return BAD;
        }
    }

    public int stand(int what) {
        if (!now.isLit()) {
            return STATE;
        }
        switch (what) {
            case 0: return now.shipsSeen(BY_KEEPER);
            case 1: return now.shipsSeen(BY_LAMP);
            case 2: return now.shipsSeen(BY_ONE);
            case 3: return now.eyesight;
            case 4: return now.oil;
            case 5: return now.cellCount;
            case 6: return now.thickOf(now.watch);
            default: return BAD;
        }
    }

    public int thick(int n) {
        if (!now.isLit()) {
            return STATE;
        }
        if (!isWithin(n, 0, FAR)) {
            return BAD;
        }
        return now.thickOf(now.watch + n);
    }

    // ---- foretold

    public int ahead(int ship, int n, int what) {
        if (!isBelow(ship, now.shipCount) || !isWithin(n, 0, FAR) || !isBelow(what, 2)) {
            return BAD;
        }
        probe.takeOneShip(now, ship);
        probe.passWatches(n);
        return what == 0 ? probe.places[0] : probe.loggedOf(0);
    }

    public int written(int n, int what) {
        if (!now.isLit()) {
            return STATE;
        }
        if (!isWithin(n, 0, FAR) || !isBelow(what, 4)) {
            return BAD;
        }
        probe.takeFrom(now);
        probe.passWatches(n);
        return what == 3 ? probe.oil : probe.shipsSeen(what);
    }

    public int when(int ship, int how) {
        if (!isBelow(ship, now.shipCount) || !isBelow(how, 2)) {
            return BAD;
        }
        probe.takeOneShip(now, ship);
        for (int k = 0; k <= FAR; k++) {
            boolean isSo = how == 0 ? probe.places[0] == 0 : probe.differOn(0);
            if (isSo) {
                return k;
            }
            probe.passWatch();
        }
        return NONE;
    }

    public int quarrel(int what) {
        if (!now.isLit()) {
            return STATE;
        }
        if (!isBelow(what, 2)) {
            return BAD;
        }
        probe.takeFrom(now);
        for (int k = 0; k <= FAR; k++) {
            int differing = probe.shipsSeen(BY_ONE);
            if (differing != 0) {
                return what == 0 ? k : Integer.numberOfTrailingZeros(differing);
            }
            probe.passWatch();
        }
        return NONE;
    }

    public int pours(int ship, int n) {
        if (!isBelow(ship, now.shipCount) || !isWithin(n, 0, NEAR)) {
            return BAD;
        }
        for (int poured = 0; poured <= MOST_OIL; poured++) {
            probe.takeOneShip(now, ship);
            probe.addOil(poured);
            probe.passWatches(n);
            if (isSeenBy(probe.loggedOf(0), BY_LAMP)) {
                return poured;
            }
        }
        return NONE;
    }

    public int lift(int n, int what) {
        if (!now.isLit()) {
            return STATE;
        }
        if (!isWithin(n, 1, NEAR) || !isBelow(what, 2)) {
            return BAD;
        }
        int best = 0;
        int least = differencesIfLifted(0, n);
        for (int f = 1; f < now.fogCount; f++) {
            int often = differencesIfLifted(f, n);
            if (often < least) {
                best = f;
                least = often;
            }
        }
        return what == 0 ? best : least;
    }

    public int sent(int n, int what) {
        if (!now.isLit()) {
            return STATE;
        }
        if (!isWithin(n, 1, NEAR) || !isBelow(what, 2)) {
            return BAD;
        }
        // No SHIP bears on another: just those that are ever differed on must go.
        int differing = 0;
        probe.takeFrom(now);
        for (int k = 0; k < n; k++) {
            probe.passWatch();
            differing |= probe.shipsSeen(BY_ONE);
        }
        return what == 0 ? Integer.bitCount(differing) : differing;
    }

    public int share(int fog, int n) {
        if (!isBelow(fog, now.fogCount) || !isWithin(n, 0, 999)) {
            return BAD;
        }
        int all = now.allThick();
        if (all < 1 || now.thicks[fog] == 0) {
            return 0;
        }
        int over = n;
        int before = 0;
        for (int f = 0; f < now.fogCount; f++) {
            over -= n * now.thicks[f] / all;
            if (f < fog && now.thicks[f] > 0) {
                before++;
            }
        }
        int own = n * now.thicks[fog] / all;
        return before < over ? own + 1 : own;
    }

    public int byTurns(int n, int m) {
        if (!now.isLit()) {
            return STATE;
        }
        if (!isWithin(n, 0, 4) || !isWithin(m, 1, 20)) {
            return BAD;
        }
        later.takeFrom(now);
        return bestTurn(n, true, m);
    }

    public int who(int ship, int which, int row, int i, int n) {
        if (!isBelow(ship, now.shipCount) || !isBelow(which, 2) || !isLog(row, n)) {
            return BAD;
        }
        Row log = rows[row];
        int finding = log.findingOf(i, n);
        if (finding != 0) {
            return found(finding);
        }
        return unfound(which == 0 ? kindsThatFit(ship, log, i, n) : cellsThatFit(ship, log, i, n));
    }

    public int fogs(int fog, int ship, int row, int i, int n) {
        if (!isBelow(fog, now.fogCount) || !isBelow(ship, now.shipCount) || !isLog(row, n)) {
            return BAD;
        }
        Row log = rows[row];
        int finding = log.findingOf(i, n);
        if (finding != 0) {
            return found(finding);
        }
        int fitting = 0;
        for (int v = 0; v <= MOST_THICK; v++) {
            probe.takeOneShip(now, ship);
            probe.thicks[fog] = v;
            fitting |= bitIf(probeFits(log, i, n), v);
        }
        return unfound(fitting);
    }

    public int sights(int ship, int which, int row, int i, int n) {
        if (!isBelow(ship, now.shipCount) || !isBelow(which, 3) || !isLog(row, n)) {
            return BAD;
        }
        Row log = rows[row];
        int finding = log.findingOf(i, n);
        if (finding != 0) {
            return found(finding);
        }
        return unfound(which == 0 ? eyesThatFit(ship, log, i, n) : oilsThatFit(ship, which, log, i, n));
    }

    public long fair(int n, int p, int what) {
        if (!now.isLit()) {
            return STATE;
        }
        if (!isWithin(n, 0, FAR) || !isWithin(p, 0, 10) || !isBelow(what, 2)) {
            return BAD;
        }
        // Where the SHIPS are then hangs on no FOG: it is played but once.
        later.takeFrom(now);
        later.passWatches(n);
        long above = 0;
        for (int lifted = 0; lifted < 1 << now.fogCount; lifted++) {
            if (isSameIfLifted(lifted, n)) {
                above += casesOf(lifted, p);
            }
        }
        long below = 1;
        for (int f = 0; f < now.fogCount; f++) {
            below *= 10;
        }
        long common = Math.max(1, commonDivisor(below, above));
        return what == 0 ? above / common : below / common;
    }

    public int drawn(int n, int seed, int what) {
        if (!now.isLit()) {
            return STATE;
        }
        if (!isWithin(n, 0, FAR) || !isWithin(seed, 1, 999999) || !isBelow(what, 2)) {
            return BAD;
        }
        probe.takeFrom(now);
        int differences = 0;
        long x = seed;
        for (int k = 0; k < n; k++) {
            x = x * 16807 % 2147483647;
            probe.befall(x);
            probe.passWatch();
            differences += Integer.bitCount(probe.shipsSeen(BY_ONE));
        }
        return what == 0 ? differences : probe.oil;
    }

    public int image(int k) {
        if (!isBelow(k, MOST_IMAGES)) {
            return BAD;
        }
        if (!now.isLit()) {
            return STATE;
        }
        images[k].takeFrom(now);
        return 1;
    }

    public int restore(int k) {
        if (!isBelow(k, MOST_IMAGES)) {
            return BAD;
        }
        if (!images[k].isLit()) {
            return STATE;
        }
        now.takeFrom(images[k]);
        acts.forget();
        return 1;
    }

    // ---- asked

    public int kind(int one) {
        return isBelow(one, now.shipCount) ? now.kinds[one] : BAD;
    }

    public int as(int one, int kind) {
        if (!isBelow(one, now.shipCount) || !isBelow(kind, MOST_KINDS)) {
            return BAD;
        }
        return isOfKind(now.kinds[one], kind) ? unfound(one) : found(NO_SUCH_KIND);
    }

    public int ask(int one, int what) {
        if (!isBelow(one, now.shipCount) || !isBelow(what, 2)) {
            return BAD;
        }
        stepCount = 0;
        return asked(what, one, 0);
    }

    public int trace(int i) {
        return isBelow(i, stepCount) ? steps[i] : NONE;
    }

    public int count(int what) {
        switch (what) {
            case 0: return rowsThere();
            case 1: return now.shipCount;
            case 2: return now.fogCount;
            case 3: return now.watch;
            case 4: return now.oil;
            case 5: return now.shipsAshore();
            case 6: return acts.kept;
            case 7: return tape.length;
            default: return BAD;
        }
    }

    public int status() {
        return latestFinding;
    }

    // ---- within

    private static boolean isBelow(int v, int bound) {
        return v >= 0 && v < bound;
    }

    private static boolean isWithin(int v, int low, int high) {
        return v >= low && v <= high;
    }

    private static int bitIf(boolean isSo, int bit) {
        return isSo ? 1 << bit : 0;
    }

    private static boolean isLog(int row, int n) {
        return isBelow(row, MOST_ROWS) && isWithin(n, 1, 12);
    }

    private int found(int finding) {
        latestFinding = finding;
        return FOUND_BASE - finding;
    }

    private int unfound(int answer) {
        latestFinding = 0;
        return answer;
    }

    private int rowsThere() {
        int there = 0;
        for (int r = 0; r < MOST_ROWS; r++) {
            if (!rows[r].missing) {
                there++;
            }
        }
        return there;
    }

    private static boolean isSeenBy(int logged, int whom) {
        switch (whom) {
            case BY_KEEPER: return (logged & 1) != 0;
            case BY_LAMP: return (logged & 2) != 0;
            default: return logged == 1 || logged == 2;
        }
    }

    private int differencesIfLifted(int fog, int n) {
        probe.takeFrom(now);
        probe.thicks[fog] = 0;
        int often = 0;
        for (int k = 0; k < n; k++) {
            probe.passWatch();
            often += Integer.bitCount(probe.shipsSeen(BY_ONE));
        }
        return often;
    }

    /** What comes of the turns that are left, from the OIL and the EYES that later has. */
    private int bestTurn(int left, boolean isPourer, int m) {
        if (left <= 0) {
            return balanceBehind(m);
        }
        int idle = bestTurn(left - 1, !isPourer, m);
        int oil = later.oil;
        int eyesight = later.eyesight;
        if (isPourer) {
            later.addOil(5);
        } else {
            later.eyesight = Math.max(0, eyesight - 1);
        }
        int busy = bestTurn(left - 1, !isPourer, m);
        later.oil = oil;
        later.eyesight = eyesight;
        return isPourer ? Math.max(idle, busy) : Math.min(idle, busy);
    }

    private int balanceBehind(int m) {
        probe.takeFrom(later);
        probe.passWatches(m);
        return Integer.bitCount(probe.shipsSeen(BY_LAMP)) - Integer.bitCount(probe.shipsSeen(BY_KEEPER));
    }

    /** Whether what comes to be LOGGED of the only SHIP of the probe is what the ROW tells. */
    private boolean probeFits(Row log, int from, int n) {
        for (int k = 0; k < n; k++) {
            probe.passWatch();
            if (probe.loggedOf(0) != log.items[from + k]) {
                return false;
            }
        }
        return true;
    }

    private int kindsThatFit(int ship, Row log, int from, int n) {
        int fitting = 0;
        for (int kind = STEAMER; kind <= BOAT; kind++) {
            probe.takeOneShip(now, ship);
            probe.kinds[0] = kind;
            fitting |= bitIf(probeFits(log, from, n), kind);
        }
        return fitting;
    }

    private int cellsThatFit(int ship, Row log, int from, int n) {
        int fitting = 0;
        for (int cell = 0; cell < now.cellCount; cell++) {
            probe.takeOneShip(now, ship);
            probe.places[0] = cell;
            fitting |= bitIf(probeFits(log, from, n), cell);
        }
        return fitting;
    }

    private int eyesThatFit(int ship, Row log, int from, int n) {
        int fitting = 0;
        for (int eyesight = 0; eyesight <= MOST_EYES; eyesight++) {
            probe.takeOneShip(now, ship);
            probe.eyesight = eyesight;
            fitting |= bitIf(probeFits(log, from, n), eyesight);
        }
        return fitting;
    }

    private int oilsThatFit(int ship, int which, Row log, int from, int n) {
        int fitting = 0;
        int least = NONE;
        for (int oil = MOST_OIL; oil >= 0; oil--) {
            probe.takeOneShip(now, ship);
            probe.oil = oil;
            if (probeFits(log, from, n)) {
                fitting++;
                least = oil;
            }
        }
        return which == 1 ? fitting : least;
    }

    /** Whether the logs are the same behind n WATCHES, if the FOGS of a set are lifted; later has the SHIPS of then. */
    private boolean isSameIfLifted(int lifted, int n) {
        probe.takeFrom(now);
        probe.shipCount = 0;
        for (int f = 0; f < now.fogCount; f++) {
            if ((lifted >> f & 1) != 0) {
                probe.thicks[f] = 0;
            }
        }
        probe.passWatches(n);
        probe.takeShips(later);
        return probe.shipsSeen(BY_ONE) == 0;
    }

    private long casesOf(int lifted, int p) {
        long cases = 1;
        for (int f = 0; f < now.fogCount; f++) {
            cases *= (lifted >> f & 1) != 0 ? p : 10 - p;
        }
        return cases;
    }

    private static long commonDivisor(long a, long b) {
        long big = a;
        long small = b;
        for (int step = 0; step < 100 && small != 0; step++) {
            long rest = big % small;
            big = small;
            small = rest;
        }
        return big;
    }

    private static boolean isOfKind(int kind, int wanted) {
        int k = kind;
        for (int step = 0; step < MOST_KINDS && isBelow(k, MOST_KINDS); step++) {
            if (k == wanted) {
                return true;
            }
            k = PARENT[k];
        }
        return false;
    }

    private int asked(int what, int ship, int depth) {
        int kind = now.kinds[ship];
        if (!isBelow(kind, MOST_KINDS)) {
            return 0;
        }
        return begun(what == ASK_SIZE ? SIZE_BODY[kind] : MARK_BODY[kind], ship, depth);
    }

    private int begun(int body, int ship, int depth) {
        // No KIND's BODIES go this deep: the guard only makes the end plain.
        if (depth > DEEPEST_ASK) {
            return 0;
        }
        leave(body);
        int d = depth + 1;
        switch (body) {
            case 10: return now.places[ship];
            case 11: return begun(10, ship, d) + asked(ASK_MARK, ship, d);
            case 12: return 0 - begun(11, ship, d);
            case 13: return begun(10, ship, d) - 100;
            case 14: return begun(13, ship, d) * 2;
            case 20: return ship;
            case 21: return begun(20, ship, d) + now.loggedOf(ship);
            case 22: return begun(21, ship, d) - 1000;
            case 23: return begun(20, ship, d) - asked(ASK_SIZE, ship, d);
            case 24: return begun(21, ship, d) * 2;
            default: return 0;
        }
    }

    private void leave(int body) {
        if (stepCount < MOST_TRACE) {
            steps[stepCount] = body;
            stepCount++;
        }
    }

    /** A ROW; its items are made once and used by every ROW of its number. */
    private static final class Row {
        final int[] items = new int[MOST_ITEMS];
        boolean missing = true;
        int lane;
        int length;

        void begin(int newLane, int n) {
            missing = false;
            lane = newLane;
            length = n;
            for (int i = 0; i < MOST_ITEMS; i++) {
                items[i] = 0;
            }
        }

        boolean hasSpan(int from, int n) {
            return from >= 0 && n >= 0 && n <= length && from <= length - n;
        }

        int findingOf(int from, int n) {
            if (missing) {
                return NO_ROW;
            }
            return hasSpan(from, n) ? 0 : NO_PLACE;
        }

        int put(int i, int v) {
            int cut = lane == 0 ? (byte) v : lane == 1 ? (short) v : v;
            items[i] = cut;
            return cut;
        }
    }

    /** A LIGHT: none, as long as it has no FOG. */
    private static final class Light {
        final int[] thicks = new int[MOST_FOGS];
        final int[] kinds = new int[MOST_SHIPS];
        final int[] places = new int[MOST_SHIPS];
        int cellCount;
        int eyesight;
        int oil;
        int watch;
        int fogCount;
        int shipCount;

        boolean isLit() {
            return fogCount > 0;
        }

        void clear() {
            cellCount = 0;
            eyesight = 0;
            oil = 0;
            watch = 0;
            fogCount = 0;
            shipCount = 0;
        }

        void takeFrom(Light other) {
            takeSea(other);
            takeShips(other);
        }

        void takeOneShip(Light other, int s) {
            takeSea(other);
            shipCount = 1;
            kinds[0] = other.kinds[s];
            places[0] = other.places[s];
        }

        private void takeSea(Light other) {
            cellCount = other.cellCount;
            eyesight = other.eyesight;
            oil = other.oil;
            watch = other.watch;
            fogCount = other.fogCount;
            for (int f = 0; f < MOST_FOGS; f++) {
                thicks[f] = other.thicks[f];
            }
        }

        void takeShips(Light other) {
            shipCount = other.shipCount;
            for (int s = 0; s < MOST_SHIPS; s++) {
                kinds[s] = other.kinds[s];
                places[s] = other.places[s];
            }
        }

        int thickOf(int ofWatch) {
            return fogCount > 0 && ofWatch >= 0 ? thicks[ofWatch % fogCount] : 0;
        }

        int allThick() {
            int all = 0;
            for (int f = 0; f < fogCount; f++) {
                all += thicks[f];
            }
            return all;
        }

        int shipsAshore() {
            int ashore = 0;
            for (int s = 0; s < shipCount; s++) {
                if (places[s] == 0) {
                    ashore++;
                }
            }
            return ashore;
        }

        int loggedOf(int s) {
            int place = places[s];
            boolean isBird = kinds[s] == GULL || kinds[s] == BOAT;
            if (kinds[s] == BOAT && place > 2) {
                return 0;
            }
            if (place == 0 && !isBird) {
                return 3;
            }
            int thickness = thickOf(watch);
            int logged = place <= eyesight - thickness ? 1 : 0;
            if (oil > 0 && place <= 4 + oil / 10 - thickness / 2) {
                logged += 2;
            }
            return logged;
        }

        boolean differOn(int s) {
            return isSeenBy(loggedOf(s), BY_ONE);
        }

        int shipsSeen(int whom) {
            int seen = 0;
            for (int s = 0; s < shipCount; s++) {
                seen |= bitIf(isSeenBy(loggedOf(s), whom), s);
            }
            return seen;
        }

        int nextPlaceOf(int s) {
            boolean isEven = watch % 2 == 0;
            switch (kinds[s]) {
                case STEAMER: return inward(places[s], 1);
                case BARQUE: return isEven ? inward(places[s], 1) : places[s];
                case MAIL: return inward(places[s], 2);
                case GULL: return isEven ? outward(places[s], 1) : inward(places[s], 1);
                case BOAT: return isEven ? outward(places[s], 2) : inward(places[s], 2);
                default: return places[s];
            }
        }

        private static int inward(int place, int by) {
            return Math.max(0, place - by);
        }

        private int outward(int place, int by) {
            return Math.min(cellCount - 1, place + by);
        }

        void addOil(int more) {
            oil = Math.min(MOST_OIL, oil + more);
        }

        void passWatch() {
            for (int s = 0; s < shipCount; s++) {
                places[s] = nextPlaceOf(s);
            }
            int burnt = thickOf(watch) >= 5 ? 2 : 1;
            oil = Math.max(0, oil - burnt);
            watch++;
        }

        void passWatches(int n) {
            for (int k = 0; k < n; k++) {
                passWatch();
            }
        }

        /** What a draw does ahead of a WATCH. */
        void befall(long x) {
            if (fogCount < 1 || shipCount < 1 || x < 0) {
                return;
            }
            if (x % 3 == 0) {
                thicks[(int) (x % fogCount)] = (int) (x % 10);
            }
            int s = (int) (x % shipCount);
            if (places[s] == 0) {
                places[s] = cellCount - 1;
            }
            if (oil == 0) {
                addOil(9);
            }
        }
    }

    /** The LIGHTS ahead of the latest ACTS, in a ring. */
    private static final class Acts {
        final Light[] ring = new Light[MOST_ACTS];
        int next;
        int kept;

        Acts() {
            for (int a = 0; a < MOST_ACTS; a++) {
                ring[a] = new Light();
            }
        }

        void forget() {
            kept = 0;
        }

        void keep(Light before) {
            ring[next].takeFrom(before);
            next = (next + 1) % MOST_ACTS;
            kept = Math.min(MOST_ACTS, kept + 1);
        }

        int takeBack(Light into) {
            next = (next + MOST_ACTS - 1) % MOST_ACTS;
            into.takeFrom(ring[next]);
            kept--;
            return kept;
        }
    }

    /** THE TAPE, and the reading of it. */
    private static final class Tape {
        static final int CANNOT_STAND = 1, NOT_AS_TOLD = 2, NO_ROOM = 3;

        final int[] bytes = new int[MOST_BYTES];
        int length;
        int at;
        int faultNumber;
        int faultPlace;

        int append(int letter) {
            bytes[length] = letter;
            length++;
            return length;
        }

        boolean readInto(Light into) {
            at = 0;
            into.clear();
            return readLaw(into) && readFogs(into) && readShips(into);
        }

        private boolean failAt(int place, int number) {
            faultPlace = place;
            faultNumber = number;
            return false;
        }

        private int byteHere() {
            return at < length ? bytes[at] : -1;
        }

        private boolean readSign(char wanted) {
            if (byteHere() != wanted) {
                return failAt(at, CANNOT_STAND);
            }
            at++;
            return true;
        }

        /** The NUMBER here; below 0, if there is a FAULT. */
        private int readNumber(int low, int high) {
            int value = 0;
            int end = at;
            while (end < length && bytes[end] >= '0' && bytes[end] <= '9' && end - at < 3) {
                value = value * 10 + bytes[end] - '0';
                end++;
            }
            if (end == at || end - at > 2) {
                failAt(at, CANNOT_STAND);
                return -1;
            }
            if (!isWithin(value, low, high)) {
                failAt(at, NOT_AS_TOLD);
                return -1;
            }
            at = end;
            return value;
        }

        private boolean readLaw(Light into) {
            if (!readSign('l')) {
                return false;
            }
            into.cellCount = readNumber(4, MOST_CELLS);
            if (into.cellCount < 0 || !readSign(',')) {
                return false;
            }
            into.eyesight = readNumber(0, MOST_EYES);
            if (into.eyesight < 0 || !readSign(',')) {
                return false;
            }
            into.oil = readNumber(0, MOST_OIL);
            return into.oil >= 0 && readSign(';');
        }

        private boolean readFogs(Light into) {
            for (int f = 0; f <= MOST_FOGS; f++) {
                if (f > 0 && byteHere() != 'f') {
                    return true;
                }
                if (f == MOST_FOGS) {
                    return failAt(at, NO_ROOM);
                }
                if (!readSign('f')) {
                    return false;
                }
                into.thicks[f] = readNumber(0, MOST_THICK);
                if (into.thicks[f] < 0 || !readSign(';')) {
                    return false;
                }
                into.fogCount = f + 1;
            }
            return true;
        }

        private boolean readShips(Light into) {
            for (int s = 0; s <= MOST_SHIPS; s++) {
                if (s > 0 && at >= length) {
                    return true;
                }
                int kind = kindOfSort(byteHere());
                if (kind == 0) {
                    return failAt(at, CANNOT_STAND);
                }
                if (s == MOST_SHIPS) {
                    return failAt(at, NO_ROOM);
                }
                at++;
                into.kinds[s] = kind;
                into.places[s] = readNumber(0, into.cellCount - 1);
                if (into.places[s] < 0 || !readSign(';')) {
                    return false;
                }
                into.shipCount = s + 1;
            }
            return true;
        }

        private static int kindOfSort(int sort) {
            switch (sort) {
                case 's': return STEAMER;
                case 'b': return BARQUE;
                case 'm': return MAIL;
                case 'g': return GULL;
                case 'o': return BOAT;
                default: return 0;
            }
        }
    }
}
