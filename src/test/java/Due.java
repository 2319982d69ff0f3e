/** What the tests of the project share: answers that are due, and texts that are fed. */
final class Due {
    static final int NONE = -1000000, BAD = -1000001, STATE = -1000002, FULL = -1000003;
    static final int NULL = -1000011, PLACE = -1000012, KIND = -1000013, SIZE = -1000014, STORE = -1000015;

    private static int checks = 0;
    private static int wrong = 0;

    private Due() {
    }

    static void is(String what, long got, long want) {
        checks++;
        if (got != want) {
            wrong++;
            System.out.println(what + " answered " + got + ", due is " + want);
        }
    }

    static void holds(String what, boolean so) {
        checks++;
        if (!so) {
            wrong++;
            System.out.println(what);
        }
    }

    static void feed(LampLogs x, String text) {
        for (int i = 0; i < text.length(); i++) {
            is("feed of " + text + " at " + i, x.feed(text.charAt(i)), x.count(7));
        }
    }

    /** What light() answers of a text. */
    static int read(LampLogs x, String text) {
        feed(x, text);
        return x.light();
    }

    static LampLogs lit(String text) {
        LampLogs x = new LampLogs();
        int ships = read(x, text);
        holds(text + " is not read: " + ships, ships > 0);
        return x;
    }

    static void end(String test) {
        System.out.println(test + ": " + checks + " checks, " + wrong + " wrong");
        if (wrong != 0 || checks == 0) {
            System.exit(1);
        }
    }
}
