import static java.lang.Integer.MAX_VALUE;
import static java.lang.Integer.MIN_VALUE;

import java.util.Arrays;

/** What the document says of what fits a log, sentence by sentence: at each bound and just beyond it. */
final class LogSentences {
    private static final int BAD = Due.BAD, NONE = Due.NONE, NULL = Due.NULL, PLACE = Due.PLACE;
    private static final int ALL_KINDS = 62, ALL_THICKS = 1023, ALL_EYES = 8191, ALL_OILS = 61;

    private LogSentences() {
    }

    static void play() {
        aRowTells();
        aRowTellsAtMost12();
        kinds();
        cells();
        thicks();
        thicksOfTheFog();
        eyes();
        oils();
        whoRefuses();
        fogsRefuses();
        sightsRefuses();
    }

    /** A LIGHT and a log in ROW 0, from place 0 on. */
    private static Run logged(String text, int... log) {
        Run x = Run.lit(text);
        x.play("row", 0, 0, log.length);
        for (int i = 0; i < log.length; i++) {
            x.play("set", 0, i, log[i]);
        }
        return x;
    }

    private static int[] logOf(int first, int howMany, int... rest) {
        int[] log = new int[howMany + rest.length];
        Arrays.fill(log, 0, howMany, first);
        System.arraycopy(rest, 0, log, howMany, rest.length);
        return log;
    }

    private static void aRowTells() {
        Doc.term("A row tells what is LOGGED of a SHIP behind each of n WATCHES (1 to 12) from now on.");
        // OIL for one WATCH more: both see the gull behind the first, the keeper alone behind the second.
        Run x = logged("l12,12,2;f0;s0;g1;", 9, 3, 1, 3, 9);
        x.still(16, "who", 1, 0, 0, 1, 2);
        x.still(30, "who", 1, 0, 0, 1, 1);
        x.still(0, "who", 1, 0, 0, 0, 1);
        x.still(0, "who", 1, 0, 0, 1, 3);
        x.still(0, "who", 1, 0, 0, 2, 1);
        x.play("watches", 1);
        // From CELL 2 on an odd WATCH a mail alone is ashore then; the keeper sees all the others.
        x.still(54, "who", 1, 0, 0, 2, 1);
        x.still(8, "who", 1, 0, 0, 1, 1);
        // ITEMS are told whole, not by their lowest bits.
        Run wide = logged("l12,12,60;f0;s0;", 3);
        wide.play("row", 1, 2, 2);
        wide.play("set", 1, 0, 3);
        wide.play("set", 1, 1, 256 + 3);
        wide.still(ALL_KINDS, "who", 0, 0, 1, 0, 1);
        wide.still(0, "who", 0, 0, 1, 1, 1);
        wide.play("set", 0, 0, -1);
        wide.still(0, "who", 0, 0, 0, 0, 1);
        wide.play("set", 0, 0, 7);
        wide.still(0, "who", 0, 0, 0, 0, 1);
    }

    private static void aRowTellsAtMost12() {
        int[] fits = logOf(3, 10, 1, 1, 1);
        int[] lastIsOff = logOf(3, 10, 1, 3);
        Run x = logged("l12,12,11;f0;g1;", fits);
        x.still(16, "who", 0, 0, 0, 0, 12);
        x.still(1, "sights", 0, 1, 0, 0, 12);
        x.still(11, "sights", 0, 2, 0, 0, 12);
        x.still(BAD, "who", 0, 0, 0, 0, 13);
        x.still(BAD, "who", 0, 0, 0, 0, 0);
        Run y = logged("l12,12,11;f0;g1;", lastIsOff);
        y.still(0, "who", 0, 0, 0, 0, 12);
        y.still(16, "who", 0, 0, 0, 0, 11);
        y.still(0, "sights", 0, 0, 0, 0, 12);
        y.still(0, "fogs", 0, 0, 0, 0, 12);
        // Where WATCH itself ends, what is foretold goes on.
        Run late = logged("l12,12,0;f0;g2;", logOf(1, 12));
        DoneSentences.passTo(late, 999);
        late.still(16, "who", 0, 0, 0, 0, 12);
    }

    private static void kinds() {
        Doc.term("KINDS (bits 1 to 5),");
        Doc.promise(27, "KINDS (which = 0),");
        logged("l12,12,60;f0;s0;", 3).still(ALL_KINDS, "who", 0, 0, 0, 0, 1);
        logged("l12,12,60;f0;o0;", 3).still(ALL_KINDS, "who", 0, 0, 0, 0, 1);
        logged("l12,12,60;f0;s0;", 0).still(0, "who", 0, 0, 0, 0, 1);
        logged("l12,12,60;f0;s2;", 0).still(32, "who", 0, 0, 0, 0, 1);
        // From CELL 2: a mail is ashore at once, the others of its like behind two WATCHES or three.
        Run mail = logged("l12,0,0;f9;s2;", 3);
        mail.still(8, "who", 0, 0, 0, 0, 1);
        Run steamer = logged("l12,0,0;f9;m2;", 0, 3);
        steamer.still(2, "who", 0, 0, 0, 0, 2);
        Run barque = logged("l12,0,0;f9;m2;", 0, 0, 3);
        barque.still(4, "who", 0, 0, 0, 0, 3);
        logged("l12,0,0;f9;m2;", 0, 0, 0).still(48, "who", 0, 0, 0, 0, 3);
    }

    private static void cells() {
        Doc.term("CELLS (bits 0 on) of it now by which it is so.");
        Doc.promise(27, "CELLS (1), n ITEMS of a ROW from i on.");
        logged("l12,0,0;f0;g5;", 0).still(4095, "who", 0, 1, 0, 0, 1);
        logged("l4,0,0;f0;g1;", 0).still(15, "who", 0, 1, 0, 0, 1);
        logged("l12,0,0;f0;g5;", 3).still(0, "who", 0, 1, 0, 0, 1);
        logged("l12,12,60;f0;o9;", 3).still(1, "who", 0, 1, 0, 0, 1);
        logged("l12,12,60;f0;g0;", 1).still(3584, "who", 0, 1, 0, 0, 1);
        logged("l12,0,0;f9;s0;", 3).still(3, "who", 0, 1, 0, 0, 1);
        // 11 WATCHES bring a steamer ashore from CELL 11, but not 10.
        logged("l12,0,0;f9;s0;", logOf(0, 10, 3)).still(2048, "who", 0, 1, 0, 0, 11);
        logged("l12,0,0;f9;s0;", logOf(0, 11)).still(0, "who", 0, 1, 0, 0, 11);
    }

    private static void thicks() {
        Doc.term("THICKS (0 to 9, bits) of a FOG;");
        Doc.promise(28, "THICKS of a FOG by what is LOGGED of a SHIP, likewise.");
        logged("l12,0,0;f5;s0;", 3).still(ALL_THICKS, "fogs", 0, 0, 0, 0, 1);
        logged("l12,0,0;f5;s0;", 0).still(0, "fogs", 0, 0, 0, 0, 1);
        // Behind the WATCH the gull is in CELL 1.
        logged("l12,9,0;f5;g0;", 0).still(512, "fogs", 0, 0, 0, 0, 1);
        logged("l12,9,0;f5;g0;", 1).still(511, "fogs", 0, 0, 0, 0, 1);
        logged("l12,10,0;f5;g0;", 0).still(0, "fogs", 0, 0, 0, 0, 1);
        logged("l12,1,0;f5;g0;", 1).still(1, "fogs", 0, 0, 0, 0, 1);
        logged("l12,1,0;f5;g0;", 0).still(1022, "fogs", 0, 0, 0, 0, 1);
        // THICK 5 burns 2 of OIL.
        logged("l12,0,2;f9;g0;", 2).still(31, "fogs", 0, 0, 0, 0, 1);
    }

    private static void thicksOfTheFog() {
        Run x = logged("l12,9,0;f0;f0;f0;f0;f0;f0;g0;", 1, 1, 1, 1, 0);
        // Behind 5 WATCHES it is the last FOG's turn, the gull in CELL 1 again.
        x.still(512, "fogs", 5, 0, 0, 0, 5);
        for (int f = 0; f < 5; f++) {
            x.still(0, "fogs", f, 0, 0, 0, 5);
        }
        x.still(511, "fogs", 1, 0, 0, 0, 1);
        x.still(ALL_THICKS, "fogs", 0, 0, 0, 0, 4);
    }

    private static void eyes() {
        Doc.term("SIGHTS: EYES (0 to 12, bits);");
        Doc.promise(29, "SIGHTS (which = 0),");
        logged("l12,6,0;f0;s0;", 3).still(ALL_EYES, "sights", 0, 0, 0, 0, 1);
        logged("l12,6,0;f0;s0;", 0).still(0, "sights", 0, 0, 0, 0, 1);
        logged("l12,6,0;f0;g0;", 0).still(1, "sights", 0, 0, 0, 0, 1);
        logged("l12,6,0;f0;g0;", 1).still(8190, "sights", 0, 0, 0, 0, 1);
        logged("l12,6,0;f1;g10;", 1).still(4096, "sights", 0, 0, 0, 0, 1);
        logged("l12,6,0;f2;g10;", 1).still(0, "sights", 0, 0, 0, 0, 1);
        logged("l12,6,0;f2;g10;", 0).still(ALL_EYES, "sights", 0, 0, 0, 0, 1);
    }

    private static void fitOils(Run x, int n, int howMany, int least) {
        x.still(howMany, "sights", 0, 1, 0, 0, n);
        x.still(least, "sights", 0, 2, 0, 0, n);
    }

    private static void oils() {
        Doc.term("OILS (0 to 60: how many; the least; NONE) by which it is so.");
        Doc.promise(29, "OILS (1 how many, 2 the least; NONE), likewise.");
        fitOils(logged("l12,0,5;f0;s0;", 3), 1, ALL_OILS, 0);
        fitOils(logged("l12,0,5;f0;s0;", 0), 1, 0, NONE);
        // Behind the WATCH the gull is in CELL 1, and no EYES see it.
        fitOils(logged("l12,0,60;f0;g0;", 0), 1, 2, 0);
        fitOils(logged("l12,0,60;f0;g0;", 2), 1, 59, 2);
        fitOils(logged("l12,0,60;f5;g0;", 2), 1, 58, 3);
        // The gull is in CELL 9 behind even counts: behind the tenth, OIL 50 has to be left of 60.
        fitOils(logged("l12,0,0;f0;g9;", 0, 2, 0, 2, 0, 2, 0, 2, 0, 2), 10, 1, 60);
        fitOils(logged("l12,0,0;f0;g9;", 0, 2, 0, 2, 0, 2, 0, 2, 0, 0), 10, 2, 58);
        fitOils(logged("l12,0,0;f0;g9;", 0, 2, 0, 2, 0, 2, 0, 2, 0, 2, 0, 2), 12, 0, NONE);
    }

    /** ROW 0 has 13 ITEMS; ROW 1 is missing; a and b are the first arguments, as told. */
    private static void likewise(String name, int a, int b) {
        Run x = logged("l12,12,60;f0;s0;", logOf(3, 13));
        for (int row : new int[] {-1, 8, MIN_VALUE, MAX_VALUE}) {
            x.still(BAD, name, a, b, row, 0, 1);
            x.still(BAD, name, a, b, row, -1, 1);
        }
        for (int n : new int[] {0, -1, 13, MIN_VALUE, MAX_VALUE}) {
            x.still(BAD, name, a, b, 0, 0, n);
            x.still(BAD, name, a, b, 1, 0, n);
            x.still(BAD, name, a, b, 0, -1, n);
        }
        for (int i : new int[] {-1, 13, 40, MIN_VALUE, MAX_VALUE}) {
            x.still(PLACE, name, a, b, 0, i, 1);
            x.still(PLACE, name, a, b, 0, i, 12);
            x.still(NULL, name, a, b, 1, i, 1);
        }
        x.still(NULL, name, a, b, 1, 0, 1);
        x.still(NULL, name, a, b, 7, 0, 12);
        x.still(PLACE, name, a, b, 0, 2, 12);
        x.still(PLACE, name, a, b, 0, 12, 2);
        int fits = name.equals("who") ? ALL_KINDS : name.equals("fogs") ? ALL_THICKS : ALL_EYES;
        x.still(fits, name, a, b, 0, 12, 1);
        x.still(fits, name, a, b, 0, 0, 1);
        Run empty = logged("l12,12,60;f0;s0;");
        empty.still(PLACE, name, a, b, 0, 0, 1);
    }

    /** Arguments of which the first or the second is wrong: BAD, also where a ROW would be found missing. */
    private static void wrong(String name, int a, int b) {
        Run x = logged("l12,12,60;f0;f0;s0;s0;", 3);
        x.still(BAD, name, a, b, 0, 0, 1);
        x.still(BAD, name, a, b, 1, 0, 1);
        x.still(BAD, name, a, b, 0, 9, 1);
    }

    private static void whoRefuses() {
        Doc.promise(27, "BAD: SHIP, which, ROW, n; NULL; PLACE.");
        new Run().still(BAD, "who", 0, 0, 0, 0, 1);
        likewise("who", 0, 0);
        for (int ship : new int[] {-1, 2, 6, MIN_VALUE, MAX_VALUE}) {
            wrong("who", ship, 0);
        }
        for (int which : new int[] {-1, 2, MIN_VALUE, MAX_VALUE}) {
            wrong("who", 0, which);
        }
    }

    private static void fogsRefuses() {
        Doc.promise(28, "BAD: FOG, SHIP, ROW, n; NULL; PLACE.");
        new Run().still(BAD, "fogs", 0, 0, 0, 0, 1);
        likewise("fogs", 0, 0);
        for (int v : new int[] {-1, 2, 6, MIN_VALUE, MAX_VALUE}) {
            wrong("fogs", v, 0);
            wrong("fogs", 0, v);
        }
        Run moreFogs = logged("l12,12,60;f0;f0;f0;s0;", 3);
        moreFogs.still(ALL_THICKS, "fogs", 2, 0, 0, 0, 1);
        moreFogs.still(BAD, "fogs", 3, 0, 0, 0, 1);
        moreFogs.still(BAD, "fogs", 0, 1, 0, 0, 1);
        Run moreShips = logged("l12,12,60;f0;s0;s0;s0;", 3);
        moreShips.still(ALL_THICKS, "fogs", 0, 2, 0, 0, 1);
        moreShips.still(BAD, "fogs", 0, 3, 0, 0, 1);
        moreShips.still(BAD, "fogs", 1, 0, 0, 0, 1);
    }

    private static void sightsRefuses() {
        Doc.promise(29, "BAD: SHIP, which, ROW, n; NULL; PLACE.");
        new Run().still(BAD, "sights", 0, 0, 0, 0, 1);
        likewise("sights", 0, 0);
        for (int ship : new int[] {-1, 2, 6, MIN_VALUE, MAX_VALUE}) {
            wrong("sights", ship, 0);
        }
        for (int which : new int[] {-1, 3, MIN_VALUE, MAX_VALUE}) {
            wrong("sights", 0, which);
        }
    }
}
