import java.util.ArrayList;
import java.util.List;
import java.util.Random;

/** Runs of calls drawn by fixed seeds, each answer against the model's: ordinary numbers, edges and wrong ones. */
public final class ModelTest {
    static final String[] NAMES = {
        "row", "set", "copy", "drop", "feed", "light", "fault", "undo", "watches", "pour", "fog", "eyes", "move",
        "ship", "stand", "thick", "ahead", "written", "when", "quarrel", "pours", "lift", "sent", "share", "byTurns",
        "who", "fogs", "sights", "fair", "drawn", "image", "restore", "kind", "as", "ask", "trace", "count", "status"};
    /** The highest number as told, for each argument of each call. */
    static final int[][] HIGHEST = {
        {7, 2, 40}, {7, 39, 255}, {7, 39, 7, 39, 40}, {7}, {255}, {}, {}, {}, {24}, {60}, {5, 9}, {12}, {5, 11},
        {5, 2}, {6}, {60}, {5, 60, 1}, {60, 3}, {5, 1}, {1}, {5, 30}, {30, 1}, {30, 1}, {5, 999}, {4, 20},
        {5, 1, 7, 39, 12}, {5, 5, 7, 39, 12}, {5, 2, 7, 39, 12}, {60, 10, 1}, {60, 999999, 1}, {1}, {1}, {5}, {5, 5},
        {5, 1}, {15}, {7}, {}};

    private final Random random;
    private final LampLogs real = new LampLogs();
    private final Model model = new Model();
    private final List<String> run = new ArrayList<>();
    private boolean isAlike = true;
    private int calls;

    private ModelTest(long seed) {
        random = new Random(seed);
    }

    private long compare(String name, int... a) {
        long got = call(real, name, a);
        long want = model.answer(name, a);
        calls++;
        StringBuilder told = new StringBuilder(name);
        for (int v : a) {
            told.append(' ').append(v);
        }
        run.add(told + " -> " + got);
        if (got != want && isAlike) {
            System.out.println(String.join("\n", run));
            isAlike = false;
        }
        Due.is(told.toString(), got, want);
        return got;
    }

    static long call(LampLogs x, String name, int[] a) {
        return switch (name) {
            case "row" -> x.row(a[0], a[1], a[2]);
            case "set" -> x.set(a[0], a[1], a[2]);
            case "copy" -> x.copy(a[0], a[1], a[2], a[3], a[4]);
            case "drop" -> x.drop(a[0]);
            case "feed" -> x.feed(a[0]);
            case "light" -> x.light();
            case "fault" -> x.fault();
            case "undo" -> x.undo();
            case "watches" -> x.watches(a[0]);
            case "pour" -> x.pour(a[0]);
            case "fog" -> x.fog(a[0], a[1]);
            case "eyes" -> x.eyes(a[0]);
            case "move" -> x.move(a[0], a[1]);
            case "ship" -> x.ship(a[0], a[1]);
            case "stand" -> x.stand(a[0]);
            case "thick" -> x.thick(a[0]);
            case "ahead" -> x.ahead(a[0], a[1], a[2]);
            case "written" -> x.written(a[0], a[1]);
            case "when" -> x.when(a[0], a[1]);
            case "quarrel" -> x.quarrel(a[0]);
            case "pours" -> x.pours(a[0], a[1]);
            case "lift" -> x.lift(a[0], a[1]);
            case "sent" -> x.sent(a[0], a[1]);
            case "share" -> x.share(a[0], a[1]);
            case "byTurns" -> x.byTurns(a[0], a[1]);
            case "who" -> x.who(a[0], a[1], a[2], a[3], a[4]);
            case "fogs" -> x.fogs(a[0], a[1], a[2], a[3], a[4]);
            case "sights" -> x.sights(a[0], a[1], a[2], a[3], a[4]);
            case "fair" -> x.fair(a[0], a[1], a[2]);
            case "drawn" -> x.drawn(a[0], a[1], a[2]);
            case "image" -> x.image(a[0]);
            case "restore" -> x.restore(a[0]);
            case "kind" -> x.kind(a[0]);
            case "as" -> x.as(a[0], a[1]);
            case "ask" -> x.ask(a[0], a[1]);
            case "trace" -> x.trace(a[0]);
            case "count" -> x.count(a[0]);
            case "status" -> x.status();
            default -> throw new IllegalStateException(name);
        };
    }

    private int number(int highest) {
        switch (random.nextInt(30)) {
            case 0: return -1;
            case 1: return highest + 1;
            case 2: return random.nextBoolean() ? Integer.MIN_VALUE : Integer.MAX_VALUE;
            case 3: return highest;
            case 4: return 0;
            default: return random.nextInt(highest + 1);
        }
    }

    private String text() {
        int cells = 4 + random.nextInt(9);
        StringBuilder text = new StringBuilder("l").append(cells).append(',').append(random.nextInt(13)).append(',');
        text.append(random.nextInt(61)).append(';');
        int fogs = 1 + random.nextInt(random.nextInt(12) == 0 ? 7 : 6);
        for (int f = 0; f < fogs; f++) {
            text.append('f').append(random.nextInt(3) == 0 ? 0 : random.nextInt(10)).append(';');
        }
        int ships = 1 + random.nextInt(random.nextInt(12) == 0 ? 7 : 6);
        for (int s = 0; s < ships; s++) {
            text.append("sbmgo".charAt(random.nextInt(5))).append(random.nextInt(cells)).append(';');
        }
        return random.nextInt(3) == 0 ? spoilt(text) : text.toString();
    }

    private String spoilt(StringBuilder text) {
        String bytes = "lfsbmgo,;0123456789xNXE {\u00b2\u00ff";
        for (int k = 1 + random.nextInt(2); k > 0 && text.length() > 0; k--) {
            int place = random.nextInt(text.length());
            char other = bytes.charAt(random.nextInt(bytes.length()));
            switch (random.nextInt(4)) {
                case 0 -> text.setCharAt(place, other);
                case 1 -> text.insert(place, other);
                case 2 -> text.deleteCharAt(place);
                default -> text.setLength(place);
            }
        }
        return text.toString();
    }

    private void read() {
        String text = text();
        for (int i = 0; i < text.length(); i++) {
            compare("feed", text.charAt(i));
        }
        compare("light");
        compare("fault");
    }

    /** A log that something fits, most often: what is foretold of a SHIP, written down. */
    private void writeLog() {
        int row = random.nextInt(8);
        int n = 1 + random.nextInt(12);
        int from = random.nextInt(10);
        int ship = random.nextInt(6);
        compare("row", row, random.nextInt(3), from + n);
        for (int k = 0; k < n; k++) {
            long logged = compare("ahead", ship, k + 1, 1);
            compare("set", row, from + k, random.nextInt(20) == 0 ? number(3) : (int) logged & 3);
        }
        for (int which = 0; which < 3; which++) {
            compare("who", ship, which, row, from, n);
            compare("sights", ship, which, row, from, n);
            compare("fogs", random.nextInt(6), ship, row, from, n);
        }
        compare("status");
    }

    private void askAll() {
        int ship = random.nextInt(6);
        compare("ask", ship, random.nextInt(2));
        for (int i = 0; i < 8; i++) {
            compare("trace", i);
        }
    }

    private void standAll() {
        for (int what = -1; what < 9; what++) {
            compare("stand", what);
            compare("count", what);
        }
    }

    private void any() {
        int c = random.nextInt(NAMES.length);
        int[] a = new int[HIGHEST[c].length];
        for (int k = 0; k < a.length; k++) {
            a[k] = number(HIGHEST[c][k]);
        }
        compare(NAMES[c], a);
    }

    private void play() {
        if (random.nextInt(4) != 0) {
            read();
        }
        while (calls < 440) {
            switch (random.nextInt(60)) {
                case 0 -> read();
                case 1, 2 -> writeLog();
                case 3 -> askAll();
                case 4 -> standAll();
                case 5 -> compare("watches", 1 + random.nextInt(24));
                default -> any();
            }
        }
    }

    public static void main(String[] args) {
        int runs = args.length > 0 ? Integer.parseInt(args[0]) : 1500;
        for (int seed = 1; seed <= runs; seed++) {
            new ModelTest(seed).play();
        }
        Due.end("ModelTest");
    }
}
