import static java.lang.Integer.MAX_VALUE;
import static java.lang.Integer.MIN_VALUE;

/** What the document says of KINDS, ASKS, counts and refusals, sentence by sentence: at each bound and beyond it. */
final class AskedSentences {
    private static final int BAD = Due.BAD, STATE = Due.STATE, FULL = Due.FULL, NONE = Due.NONE;
    private static final int NULL = Due.NULL, PLACE = Due.PLACE, KIND = Due.KIND, SIZE = Due.SIZE, STORE = Due.STORE;
    /** Behind it: the boat is seen by both, the gull by the keeper alone, all others by both. */
    private static final String FAR = "l12,12,60;f0;o2;g11;m5;b4;s0;s7;";

    private AskedSentences() {
    }

    static void play() {
        kindsOfShips();
        kindTells();
        kindRefuses();
        asTakes();
        asRefuses();
        sizeBodies();
        markBodies();
        nearestBodies();
        askTells();
        askRefuses();
        traceKeeps16();
        traceTells();
        countTells();
        countRefuses();
        statusTells();
        statusLeaves();
        numbersFrom0();
        refusalsInOrder();
        findingsInTime();
        nothingChanges();
    }

    private static void kindsOfShips() {
        Doc.term("KINDS of SHIPS: 0 SHIP; 1 STEAMER, a SHIP; 2 BARQUE, a STEAMER; 3 MAIL, a STEAMER; 4 GULL, a SHIP; 5"
            + " BOAT, a GULL. By this it is asked.");
        Run x = Run.lit("l4,0,0;f0;s0;b0;m0;g0;o0;");
        String[] taken = {"110000", "111000", "110100", "100010", "100011"};
        for (int s = 0; s < 5; s++) {
            for (int kind = 0; kind <= 5; kind++) {
                x.still(taken[s].charAt(kind) == '1' ? s : KIND, "as", s, kind);
            }
        }
    }

    private static void kindTells() {
        Doc.promise(34, "The KIND of a SHIP, as told (1 to 5).");
        Run x = Run.lit("l4,0,0;f0;s0;b0;m0;g0;o0;o3;");
        int[] due = {1, 2, 3, 4, 5, 5};
        for (int s = 0; s <= 5; s++) {
            x.still(due[s], "kind", s);
        }
    }

    private static void kindRefuses() {
        Doc.promise(34, "BAD.");
        new Run().still(BAD, "kind", 0);
        Run x = Run.lit("l4,0,0;f0;s0;b0;");
        for (int wrong : new int[] {-1, 2, 6, MIN_VALUE, MAX_VALUE}) {
            x.still(BAD, "kind", wrong);
        }
        x.still(BAD, "kind", 5);
    }

    private static void asTakes() {
        Doc.promise(35, "A SHIP is taken as one of a KIND (0 .. 5): its number.");
        Run x = Run.lit(FAR);
        int[] kinds = {5, 4, 3, 2, 1, 1};
        for (int s = 0; s <= 5; s++) {
            x.still(s, "as", s, 0);
            x.still(s, "as", s, kinds[s]);
        }
        x.still(0, "as", 0, 4);
    }

    private static void asRefuses() {
        Doc.promise(35, "BAD; KIND: it is no such one.");
        new Run().still(BAD, "as", 0, 0);
        Run x = Run.lit(FAR);
        for (int wrong : new int[] {-1, 6, MIN_VALUE, MAX_VALUE}) {
            x.still(BAD, "as", wrong, 0);
            x.still(BAD, "as", 0, wrong);
            x.still(BAD, "as", wrong, 1);
        }
        x.still(KIND, "as", 0, 1);
        x.still(KIND, "as", 1, 5);
        x.still(KIND, "as", 4, 2);
        x.still(KIND, "as", 4, 5);
    }

    /** An ASK, its answer, and all of THE TRACE. */
    private static void asks(int one, int what, int due, int... trace) {
        Run x = Run.lit(FAR);
        x.is(due, "ask", one, what);
        for (int i = 0; i < 16; i++) {
            x.still(i < trace.length ? trace[i] : NONE, "trace", i);
        }
    }

    private static void sizeBodies() {
        Doc.term("ASKS of SHIPS, by BODIES,");
        Doc.term("0 SIZE: 10 lent to all SHIPS: its CELL. 11 of STEAMERS: what 10 gives, and MARK. 12 of BARQUES: 0 less"
            + " what 11 gives. 13 of GULLS: what 10 gives, less 100. 14 of BOATS: what 13 gives, twice.");
        asks(4, 0, 7, 11, 10, 21, 20);
        asks(5, 0, 15, 11, 10, 21, 20);
        asks(3, 0, -16, 12, 11, 10, 24, 21, 20);
        asks(1, 0, -89, 13, 10);
        asks(0, 0, -196, 14, 13, 10);
    }

    private static void markBodies() {
        Doc.term("1 MARK: 20 lent to all SHIPS: the number. 21 of STEAMERS: what 20 gives, and what is LOGGED now. 22 of"
            + " MAILS: what 21 gives, less 1000. 23 of GULLS: what 20 gives, less SIZE. 24 of BARQUES: what 21 gives,"
            + " twice.");
        asks(4, 1, 7, 21, 20);
        asks(5, 1, 8, 21, 20);
        asks(2, 1, -995, 22, 21, 20);
        asks(1, 1, 90, 23, 20, 13, 10);
        asks(3, 1, 12, 24, 21, 20);
        Run x = Run.lit("l12,5,0;f0;s6;");
        x.is(0, "ask", 0, 1);
        x.is(6, "ask", 0, 0);
        x.play("watches", 1);
        x.is(1, "ask", 0, 1);
        x.is(6, "ask", 0, 0);
        x.play("pour", 10);
        x.is(3, "ask", 0, 1);
    }

    private static void nearestBodies() {
        Doc.term("(Of an ask the BODY told for the KIND begins, else that of the nearest KIND that it is, too, else the one"
            + " that is lent; SIZE, MARK within others are asked of the same SHIP anew.)");
        // SIZE of a mail is a steamer's, with the mail's own MARK; MARK of a boat is a gull's, with the boat's own SIZE.
        asks(2, 0, -990, 11, 10, 22, 21, 20);
        asks(0, 1, 196, 23, 20, 14, 13, 10);
    }

    private static void askTells() {
        Doc.promise(36, "An ASK (0, 1) of a SHIP.");
        Doc.promise(36, "THE TRACE is empty ahead of it.");
        Run x = Run.lit(FAR);
        x.still(NONE, "trace", 0);
        x.is(-16, "ask", 3, 0);
        x.still(20, "trace", 5);
        x.is(7, "ask", 4, 1);
        x.still(21, "trace", 0);
        x.still(20, "trace", 1);
        x.still(NONE, "trace", 2);
        x.still(NONE, "trace", 5);
    }

    private static void askRefuses() {
        Doc.promise(36, "BAD.");
        new Run().still(BAD, "ask", 0, 0);
        Run x = Run.lit(FAR);
        x.play("ask", 3, 0);
        for (int wrong : new int[] {-1, 6, MIN_VALUE, MAX_VALUE}) {
            x.still(BAD, "ask", wrong, 0);
        }
        for (int wrong : new int[] {-1, 2, MIN_VALUE, MAX_VALUE}) {
            x.still(BAD, "ask", 0, wrong);
        }
    }

    private static void traceKeeps16() {
        Doc.term("each of which leaves its number in THE TRACE as it begins (the first 16):");
        // No ASK begins more than six BODIES; behind these there is none up to the sixteenth place, and beyond it.
        Run x = Run.lit(FAR);
        x.play("ask", 3, 0);
        int[] due = {12, 11, 10, 24, 21, 20};
        for (int i = 0; i <= 17; i++) {
            x.still(i < 6 ? due[i] : NONE, "trace", i);
        }
        for (int k = 0; k < 20; k++) {
            x.play("ask", 3, 0);
        }
        for (int i = 0; i <= 17; i++) {
            x.still(i < 6 ? due[i] : NONE, "trace", i);
        }
    }

    private static void traceTells() {
        Doc.promise(37, "Number i of THE TRACE; NONE.");
        Run none = new Run();
        Run x = Run.lit(FAR);
        x.play("ask", 1, 0);
        x.still(13, "trace", 0);
        x.still(10, "trace", 1);
        for (int i : new int[] {-1, 2, 15, 16, MIN_VALUE, MAX_VALUE}) {
            x.still(NONE, "trace", i);
            none.still(NONE, "trace", i);
        }
        none.still(NONE, "trace", 0);
    }

    private static void countTells() {
        Doc.promise(38, "How many: 0 ROWS, 1 SHIPS, 2 FOGS, 3 WATCH, 4 OIL, 5 how many are in CELL 0, 6 ACTS that can be"
            + " undone, 7 bytes on the tape.");
        counts(new Run(), 0, 0, 0, 0, 0, 0, 0, 0);
        Run full = Run.lit("l4,0,60;f0;f0;f0;f0;f0;f0;s0;b0;m0;g0;o0;s0;");
        for (int r = 0; r <= 7; r++) {
            full.play("row", r, 0, r);
        }
        counts(full, 8, 6, 6, 0, 60, 6, 0, 0);
        full.play("drop", 7);
        full.play("drop", 0);
        full.play("feed", 'l');
        full.play("move", 1, 3);
        full.play("move", 2, 1);
        counts(full, 6, 6, 6, 0, 60, 4, 2, 1);
        Run late = Run.lit("l4,0,60;f9;g1;");
        DoneSentences.passTo(late, 999);
        counts(late, 0, 1, 1, 999, 0, 0, 24, 0);
        Run tape = new Run();
        for (int k = 0; k < 120; k++) {
            tape.play("feed", k);
        }
        counts(tape, 0, 0, 0, 0, 0, 0, 0, 120);
    }

    private static void counts(Run x, int... due) {
        for (int what = 0; what <= 7; what++) {
            x.still(due[what], "count", what);
        }
    }

    private static void countRefuses() {
        Doc.promise(38, "BAD.");
        for (int wrong : new int[] {-1, 8, MIN_VALUE, MAX_VALUE}) {
            new Run().still(BAD, "count", wrong);
            Run.lit(FAR).still(BAD, "count", wrong);
        }
    }

    private static void finds(int status, long answer, Run x, String name, int... a) {
        x.is(answer, name, a);
        x.is(status, "status");
        x.is(status, "status");
    }

    private static void statusTells() {
        Doc.promise(39, "Of the latest call with a ROW, or as(), that was not BAD, STATE, FULL: the number of its FINDING;");
        Run x = Run.lit(FAR);
        finds(4, SIZE, x, "row", 0, 0, -1);
        finds(0, 1, x, "row", 0, 0, 1);
        finds(1, NULL, x, "set", 1, 0, 0);
        finds(0, 3, x, "set", 0, 0, 3);
        finds(2, PLACE, x, "set", 0, 1, 0);
        finds(0, 0, x, "copy", 0, 0, 0, 0, 0);
        finds(1, NULL, x, "copy", 0, 0, 1, 0, 0);
        finds(0, 1, x, "row", 1, 1, 1);
        finds(5, STORE, x, "copy", 0, 0, 1, 0, 0);
        finds(2, PLACE, x, "copy", 0, 0, 0, 0, 2);
        finds(0, 1, x, "drop", 1);
        finds(1, NULL, x, "drop", 1);
        finds(0, 0, x, "as", 0, 0);
        finds(3, KIND, x, "as", 0, 1);
        finds(0, 62, x, "who", 4, 0, 0, 0, 1);
        finds(1, NULL, x, "who", 4, 0, 1, 0, 1);
        finds(0, 1023, x, "fogs", 0, 4, 0, 0, 1);
        finds(2, PLACE, x, "fogs", 0, 4, 0, 1, 1);
        finds(0, 8191, x, "sights", 4, 0, 0, 0, 1);
        finds(2, PLACE, x, "sights", 4, 0, 0, -1, 1);
        x.play("set", 0, 0, 0);
        x.play("drop", 1);
        // NONE is an answer, and no FINDING.
        finds(0, NONE, x, "sights", 4, 2, 0, 0, 1);
    }

    private static void statusLeaves() {
        Doc.promise(39, "0: it had none, or there was none.");
        new Run().still(0, "count", 0);
        new Run().is(0, "status");
        Run.lit(FAR).is(0, "status");
        Run x = Run.lit(FAR);
        x.play("drop", 0);
        int[][] refused = {{8, 0, 0}, {0, 3, 0}, {0, 0, 41}};
        for (int[] a : refused) {
            finds(1, BAD, x, "row", a);
        }
        finds(1, BAD, x, "set", 8, 0, 0);
        finds(1, BAD, x, "copy", 0, 0, 8, 0, 0);
        finds(1, BAD, x, "drop", 8);
        finds(1, BAD, x, "as", 6, 0);
        finds(1, BAD, x, "who", 0, 0, 0, 0, 13);
        finds(1, BAD, x, "fogs", 1, 0, 0, 0, 1);
        finds(1, BAD, x, "sights", 0, 3, 0, 0, 1);
        // Calls without a ROW leave it, refused or not.
        finds(1, STATE, x, "undo");
        finds(1, STATE, x, "move", 0, 2);
        finds(1, BAD, x, "pour", 61);
        finds(1, 60, x, "pour", 1);
        finds(1, 0, x, "undo");
        finds(1, -1000100, x, "light");
        finds(1, 7, x, "ask", 4, 0);
        finds(1, 1, x, "image", 0);
        finds(1, 1, x, "restore", 0);
        finds(1, 1, x, "feed", 'l');
    }

    private static void numbersFrom0() {
        Doc.term("Numbers go from 0 on.");
        Run x = Run.lit("l4,1,2;f3;s2;");
        x.is(1, "row", 0, 0, 1);
        x.is(3, "set", 0, 0, 3);
        x.is(2, "ship", 0, 0);
        x.is(3, "fog", 0, 4);
        x.is(2, "move", 0, 0);
        x.is(0, "as", 0, 0);
        x.is(1, "image", 0);
        x.still(BAD, "ship", -1, 0);
        x.still(BAD, "ship", 0, -1);
        x.still(BAD, "fog", -1, 4);
        x.still(BAD, "move", 0, -1);
        x.still(BAD, "as", 0, -1);
        x.still(BAD, "image", -1);
        x.still(BAD, "row", -1, 0, 1);
        x.still(BAD, "row", 0, -1, 1);
        x.still(PLACE, "set", 0, -1, 3);
    }

    private static void refusalsInOrder() {
        Doc.term("Refusals are answers, the first of these that fits, but as told: BAD (a number is not as told; there is"
            + " no such thing), STATE (as told), FULL (as told),");
        Due.is("NONE", LampLogs.NONE, -1000000);
        Due.is("BAD", LampLogs.BAD, -1000001);
        Due.is("STATE", LampLogs.STATE, -1000002);
        Due.is("FULL", LampLogs.FULL, -1000003);
        Run none = new Run();
        // BAD ahead of STATE, where nothing else is told.
        none.still(BAD, "image", 2);
        none.still(BAD, "restore", 2);
        Run x = Run.lit("l4,0,0;f0;s2;");
        x.still(BAD, "move", 1, 2);
        x.still(BAD, "move", 0, 4);
        x.still(STATE, "move", 0, 2);
        // BAD ahead of FULL.
        DoneSentences.passTo(x, 999);
        x.still(BAD, "watches", 25);
        x.still(FULL, "watches", 24);
        Run tape = new Run();
        for (int k = 0; k < 120; k++) {
            tape.play("feed", 'x');
        }
        tape.still(BAD, "feed", 256);
        tape.still(FULL, "feed", 255);
    }

    private static void findingsInTime() {
        Doc.term("then FINDINGS, of several the first in time: -1000010 less 1 NULL (a ROW that is missing), 2 PLACE (no such"
            + " place of a ROW), 3 KIND (a SHIP that is not that), 4 SIZE (fewer than none), 5 STORE (ROWS of two"
            + " LANES).");
        Run x = Run.lit(FAR);
        x.play("row", 0, 0, 1);
        x.play("row", 1, 1, 1);
        x.still(-1000011, "set", 7, 0, 0);
        x.still(-1000012, "set", 0, 1, 0);
        x.still(-1000013, "as", 0, 3);
        x.still(-1000014, "row", 0, 0, -1);
        x.still(-1000015, "copy", 0, 0, 1, 0, 1);
        // BAD ahead of each, NULL ahead of STORE, STORE ahead of PLACE, NULL ahead of PLACE.
        x.still(BAD, "set", 8, -1, 0);
        x.still(BAD, "as", 0, 6);
        x.still(BAD, "row", 8, 0, -1);
        x.still(BAD, "copy", 7, 0, 8, 0, 0);
        x.still(NULL, "copy", 7, 0, 1, 0, 0);
        x.still(NULL, "copy", 7, -1, 0, 0, 0);
        x.still(STORE, "copy", 0, 9, 1, 9, 9);
        x.still(NULL, "set", 7, -1, 0);
        x.still(NULL, "who", 0, 0, 7, -1, 1);
        x.still(BAD, "who", 0, 0, 7, -1, 0);
    }

    private static void nothingChanges() {
        Doc.term("What is refused, or found, changes nothing but status().");
        Run x = Run.lit("l10,6,25;f4;f0;f6;s3;b7;m9;g0;o2;s0;");
        x.play("row", 0, 0, 3);
        x.play("set", 0, 0, 1);
        x.play("set", 0, 1, 2);
        x.play("row", 1, 1, 2);
        x.play("image", 0);
        x.play("watches", 20);
        x.play("eyes", 3);
        x.play("ask", 1, 0);
        x.play("feed", 'l');
        x.play("feed", '4');
        x.still(BAD, "feed", 300);
        x.still(BAD, "watches", 25);
        x.still(BAD, "pour", 0);
        x.still(BAD, "fog", 3, 0);
        x.still(BAD, "fog", 0, 10);
        x.still(BAD, "eyes", 13);
        x.still(BAD, "move", 0, 10);
        x.still(STATE, "move", 5, 0);
        x.still(BAD, "ask", 0, 2);
        x.still(BAD, "image", 2);
        x.still(STATE, "restore", 1);
        x.still(BAD, "restore", 2);
        x.still(BAD, "row", 0, 0, 41);
        x.still(SIZE, "row", 0, 0, -1);
        x.still(PLACE, "set", 0, 3, 1);
        x.still(PLACE, "copy", 0, 0, 0, 1, 3);
        x.still(STORE, "copy", 0, 0, 1, 0, 1);
        x.still(NULL, "copy", 0, 0, 2, 0, 1);
        x.still(NULL, "drop", 2);
        x.still(KIND, "as", 0, 2);
    }
}
