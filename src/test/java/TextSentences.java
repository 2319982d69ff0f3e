import static java.lang.Integer.MAX_VALUE;
import static java.lang.Integer.MIN_VALUE;

/** What the document says of texts and their FAULTS, sentence by sentence: at each bound and just beyond it. */
final class TextSentences {
    private static final int BAD = Due.BAD, STATE = Due.STATE, FULL = Due.FULL;
    private static final String SIX_FOGS = "f1;f2;f3;f4;f5;f6;";
    private static final String SIX_SHIPS = "s0;b1;m2;g3;o0;s1;";
    /** The longest text that can be read, 58 bytes. */
    private static final String LONGEST = "l12,12,60;" + "f09;".repeat(6) + "s11;".repeat(6);

    private TextSentences() {
    }

    static void play() {
        tapeHasAtMost120();
        feedTakesBytes();
        feedRefuses();
        tokensAreNothingElse();
        lightIsLawFogsShips();
        lawIsWithinBounds();
        fogsAreWithinBounds();
        fogsComeRound();
        shipsAreWithinBounds();
        readStandsInPlace();
        faultIsOfTheFirstToken();
        fault1();
        fault2();
        fault3();
        lightReads();
        lightLeavesAllBehindAFault();
        aShorterTextBehindALonger();
        faultTellsTheLatest();
    }

    private static void faulted(String text, int place, int number) {
        new Run().faulted(text, place, number);
    }

    private static Run read(String text, int ships) {
        Run x = new Run();
        for (char c : text.toCharArray()) {
            x.play("feed", c);
        }
        x.is(ships, "light");
        x.is(0, "fault");
        x.is(0, "count", 7);
        return x;
    }

    private static Run tapeOf(int bytes) {
        Run x = new Run();
        for (int k = 1; k <= bytes; k++) {
            x.is(k, "feed", 'l');
        }
        return x;
    }

    private static void tapeHasAtMost120() {
        Doc.term("TEXTS: THE TAPE has at most 120 bytes, that come one by one;");
        Run x = tapeOf(119);
        x.is(119, "count", 7);
        x.is(120, "feed", 'l');
        x.is(120, "count", 7);
        x.still(FULL, "feed", 'l');
        x.is(-1000101, "light");
        x.is(0, "count", 7);
        x.is(1, "feed", 'l');
    }

    private static void feedTakesBytes() {
        Doc.promise(6, "A byte (0 to 255) comes behind the tape: how many it has.");
        Run x = new Run();
        x.is(1, "feed", 0);
        x.is(2, "feed", 255);
        x.still(BAD, "feed", -1);
        x.still(BAD, "feed", 256);
        x.is(3, "feed", 128);
        x.is(3, "count", 7);
        Run behind = new Run();
        for (char c : "l4,0,0;f0;s".toCharArray()) {
            behind.play("feed", c);
        }
        behind.is(12, "feed", '2');
        behind.is(13, "feed", ';');
        behind.is(1, "light");
        behind.is(2, "ship", 0, 0);
    }

    private static void feedRefuses() {
        Doc.promise(6, "BAD; FULL.");
        Run x = tapeOf(120);
        x.still(FULL, "feed", 0);
        x.still(FULL, "feed", 255);
        for (int wrong : new int[] {-1, 256, MIN_VALUE, MAX_VALUE}) {
            x.still(BAD, "feed", wrong);
            tapeOf(1).still(BAD, "feed", wrong);
        }
        x.is(-1000101, "light");
    }

    /** A byte stands behind a text, and more bytes behind it: is it the TOKEN with FAULT 1? */
    private static void tryByte(String ahead, int letter, String allowed) {
        LampLogs x = new LampLogs();
        Due.feed(x, ahead);
        x.feed(letter);
        Due.feed(x, ";,0;s0;");
        long got = x.light();
        boolean isFigure = letter >= '0' && letter <= '9';
        boolean isBehindFigure = ahead.matches(".*[0-9]");
        String told = "byte " + letter + " behind " + ahead;
        if (allowed.indexOf(letter) >= 0) {
            Due.holds(told + " has FAULT 1", got != -1000100 - ahead.length() || x.fault() == 2);
            return;
        }
        // All NUMBERS that stand ahead have two figures, so that one more makes a run of three.
        Due.is(told, got, -1000100 - ahead.length() + (isFigure && isBehindFigure ? 2 : 0));
        Due.is(told + ", fault()", x.fault(), 1);
    }

    private static void tokensAreNothingElse() {
        Doc.term("TOKENS: letters a to z (each by itself), NUMBERS (figures, 2 at most), SIGNS , and ; nothing else.");
        String figures = "0123456789";
        String[][] places = {
            {"", "l"}, {"l", figures}, {"l12", ","}, {"l12,", figures}, {"l12,12", ","}, {"l12,12,", figures},
            {"l12,12,60", ";"}, {"l12,12,60;", "f"}, {"l12,12,60;f", figures}, {"l12,12,60;f09", ";"},
            {"l12,12,60;f09;", "fsbmgo"}, {"l12,12,60;f09;s", figures}, {"l12,12,60;f09;s11", ";"},
            {"l12,12,60;f09;s11;", "sbmgo"}, {"l12,12,60;f09;s11;g00;", "sbmgo"}};
        for (String[] place : places) {
            for (int letter = 0; letter <= 255; letter++) {
                tryByte(place[0], letter, place[1]);
            }
        }
        read("l4,0,0;f0;s0;", 1);
        read("l04,00,00;f00;s00;", 1);
        faulted("l004,0,0;f0;s0;", 1, 1);
        faulted("ll4,0,0;f0;s0;", 1, 1);
    }

    private static void lightIsLawFogsShips() {
        Doc.term("light: law fog { fog } ship { ship }.");
        read("l4,0,0;f0;s0;", 1);
        read("l4,0,0;f0;f1;s0;s1;", 2);
        faulted("", 0, 1);
        faulted("f0;s0;", 0, 1);
        faulted("s0;", 0, 1);
        faulted("l4,0,0;s0;", 7, 1);
        faulted("l4,0,0;", 7, 1);
        faulted("l4,0,0;f0;", 10, 1);
        faulted("l4,0,0;l4,0,0;f0;s0;", 7, 1);
        faulted("l4,0,0;f0;l4,0,0;s0;", 10, 1);
        faulted("l4,0,0;f0;s0;f0;", 13, 1);
        faulted("l4,0,0;f0;s0;l4,0,0;", 13, 1);
        faulted("l4,0,0;f0;s0;f0;s0;", 13, 1);
    }

    private static void lawIsWithinBounds() {
        Doc.term("law: l CELLS , EYES , OIL ; (4 to 12: CELLS 0, the shore, 1, ..; 0 to 12; 0 to 60).");
        Run least = read("l4,0,0;f0;s0;", 1);
        least.is(4, "stand", 5);
        least.is(0, "stand", 3);
        least.is(0, "stand", 4);
        least.is(0, "move", 0, 3);
        least.still(BAD, "move", 0, 4);
        Run most = read("l12,12,60;f0;s0;", 1);
        most.is(12, "stand", 5);
        most.is(12, "stand", 3);
        most.is(60, "stand", 4);
        most.is(0, "move", 0, 11);
        most.still(BAD, "move", 0, 12);
        for (int cells : new int[] {0, 3, 13, 99}) {
            faulted("l" + cells + ",0,0;f0;s0;", 1, 2);
        }
        for (int eyes : new int[] {13, 99}) {
            faulted("l4," + eyes + ",0;f0;s0;", 3, 2);
        }
        for (int oil : new int[] {61, 99}) {
            faulted("l4,0," + oil + ";f0;s0;", 5, 2);
        }
    }

    private static void fogsAreWithinBounds() {
        Doc.term("fog: f THICK ; (0 to 9; FOGS 0 .. 5, 6 at most:");
        Run x = read("l4,0,0;" + SIX_FOGS + "s0;", 1);
        x.is(6, "count", 2);
        x.is(6, "fog", 5, 9);
        x.is(1, "fog", 0, 0);
        x.still(BAD, "fog", 6, 0);
        x.still(BAD, "fog", -1, 0);
        Run y = read("l4,0,0;f0;f9;f09;s0;", 1);
        y.is(3, "count", 2);
        y.is(0, "thick", 0);
        y.is(9, "thick", 1);
        y.is(9, "thick", 2);
        Run one = read("l4,0,0;f3;s0;", 1);
        one.is(1, "count", 2);
        one.still(BAD, "fog", 1, 0);
        faulted("l4,0,0;f10;s0;", 8, 2);
        faulted("l4,0,0;f99;s0;", 8, 2);
        faulted("l4,0,0;" + SIX_FOGS + "f7;s0;", 25, 3);
    }

    private static void fogsComeRound() {
        Doc.term("that of a WATCH is that of the WATCH by how many there are left over).");
        for (int fogs = 1; fogs <= 6; fogs++) {
            Run x = read("l4,0,0;" + SIX_FOGS.substring(0, 3 * fogs) + "s0;", 1);
            for (int n = 0; n <= 2 * fogs; n++) {
                x.is(n % fogs + 1, "thick", n);
            }
            x.is(60 % fogs + 1, "thick", 60);
            x.play("watches", fogs);
            x.is(1, "stand", 6);
            x.play("watches", 1);
            x.is(1 % fogs + 1, "stand", 6);
        }
        Run late = read("l4,0,0;" + SIX_FOGS + "s0;", 1);
        DoneSentences.passTo(late, 999);
        late.is(999 % 6 + 1, "stand", 6);
        late.is(1059 % 6 + 1, "thick", 60);
        late.is(1000 % 6 + 1, "thick", 1);
    }

    private static void shipsAreWithinBounds() {
        Doc.term("ship: SORT AT ; (SORT: s a steamer, b a barque, m a mail, g a gull, o a boat; a CELL; SHIPS 0 .. 5,"
            + " 6 at most).");
        Run x = read("l4,0,0;f0;" + SIX_SHIPS, 6);
        int[] kinds = {1, 2, 3, 4, 5, 1};
        int[] cells = {0, 1, 2, 3, 0, 1};
        for (int s = 0; s <= 5; s++) {
            x.is(kinds[s], "kind", s);
            x.is(cells[s], "ship", s, 0);
        }
        x.still(BAD, "kind", 6);
        x.still(BAD, "kind", -1);
        Run one = read("l4,0,0;f0;o3;", 1);
        one.is(5, "kind", 0);
        one.still(BAD, "kind", 1);
        read("l12,0,0;f0;s11;", 1).is(11, "ship", 0, 0);
        for (char sort : "sbmgo".toCharArray()) {
            read("l4,0,0;f0;" + sort + "3;", 1).is(3, "ship", 0, 0);
            read("l4,0,0;f0;" + sort + "0;", 1).is(0, "ship", 0, 0);
            faulted("l4,0,0;f0;" + sort + "4;", 11, 2);
            faulted("l12,0,0;f0;" + sort + "12;", 12, 2);
            faulted("l12,0,0;f0;" + sort + "99;", 12, 2);
            faulted("l4,0,0;f0;" + SIX_SHIPS + sort + "0;", 28, 3);
        }
    }

    private static void readStandsInPlace() {
        Doc.term("A LIGHT that is read stands in place of the one before (none at first): WATCH 0; no ACT can be"
            + " undone.");
        new Run().still(STATE, "stand", 0);
        new Run().still(BAD, "kind", 0);
        Run x = Run.lit("l12,12,60;" + SIX_FOGS + SIX_SHIPS);
        x.still(STATE, "undo");
        x.play("watches", 24);
        x.is(24, "count", 6);
        x.read("l4,1,2;f3;g2;");
        x.is(0, "count", 3);
        x.is(0, "count", 6);
        x.still(STATE, "undo");
        x.is(1, "count", 1);
        x.is(1, "count", 2);
        x.is(4, "stand", 5);
        x.is(1, "stand", 3);
        x.is(2, "stand", 4);
        x.is(3, "thick", 1);
        x.is(4, "kind", 0);
        x.still(BAD, "kind", 1);
        x.still(BAD, "fog", 1, 0);
    }

    private static void faultIsOfTheFirstToken() {
        Doc.term("FAULTS, the first TOKEN that has one (its first byte), of one TOKEN the least:");
        faulted("l3,13,61;f10;s4;x", 1, 2);
        faulted("l4,13,61;f10;s4;x", 3, 2);
        faulted("l4,12,61;f10;s4;x", 6, 2);
        faulted("l4,12,60;f10;s4;x", 10, 2);
        faulted("l4,12,60;f9;s4;x", 13, 2);
        faulted("l4,12,60;f9;s3;x", 15, 1);
        faulted("x3,13,61;", 0, 1);
        faulted("l12x13", 3, 1);
        // NUMBERS too great, but of three figures; and a place where none can stand.
        faulted("l013,0,0;", 1, 1);
        faulted("l4,0,999;", 5, 1);
        faulted("l4,0,0;f010;s0;", 8, 1);
        faulted("l4,0,0;f0;s099;", 11, 1);
        faulted("l4,0,0;99;", 7, 1);
        faulted("l4,0,0;" + SIX_FOGS + "f99;", 25, 3);
        faulted("l4,0,0;" + SIX_FOGS + "f", 25, 3);
        faulted("l4,0,0;" + SIX_FOGS + "f;;;", 25, 3);
    }

    private static void fault1() {
        Doc.term("1 it cannot stand there, or is none (a run of three figures, at its first; the end: how many bytes"
            + " there are);");
        String whole = "l4,0,0;f0;s0;";
        for (int bytes = 0; bytes < whole.length(); bytes++) {
            faulted(whole.substring(0, bytes), bytes, 1);
        }
        faulted(whole + "s", 14, 1);
        faulted(whole + "s0", 15, 1);
        read(whole + "s0;", 2);
        faulted(LONGEST.substring(0, 57), 57, 1);
        faulted("l000,0,0;", 1, 1);
        faulted("l4,000,0;", 3, 1);
        faulted("l4,12,000;", 6, 1);
        faulted("l4,0,0;f000;", 8, 1);
        faulted("l4,0,0;f0;s000;", 11, 1);
        faulted("l1234567890", 1, 1);
        faulted("l4,0,0;000", 7, 1);
        faulted("000", 0, 1);
        faulted("l4,0,0;f0;s0;000", 13, 1);
        faulted("l4,,0;", 3, 1);
        faulted("l4,-1,0;", 3, 1);
        faulted("l 4,0,0;", 1, 1);
        faulted("l4,0,0;f0;S0;", 10, 1);
        faulted("l4,0,0;f0;{0;", 10, 1);
        faulted("l4,0,0;f0;`0;", 10, 1);
        faulted("l4,0,0;f0;s/;", 11, 1);
        faulted("l4,0,0;f0;s:;", 11, 1);
    }

    private static void fault2() {
        Doc.term("2 a NUMBER that is not as told;");
        faulted("l3,0,0;", 1, 2);
        faulted("l03,0,0;", 1, 2);
        faulted("l13,0,0;", 1, 2);
        faulted("l4,13,0;", 3, 2);
        faulted("l4,0,61;", 5, 2);
        faulted("l4,0,0;f10;", 8, 2);
        faulted("l4,0,0;f0;f10;", 11, 2);
        faulted("l4,0,0;f0;s4;", 11, 2);
        faulted("l5,0,0;f0;s5;", 11, 2);
        read("l5,0,0;f0;s4;", 1);
        faulted("l4,0,0;f0;s0;s4;", 14, 2);
        // The end comes behind the NUMBER: what is wrong with it comes first.
        faulted("l3", 1, 2);
        faulted("l4,0,0;f10", 8, 2);
    }

    private static void fault3() {
        Doc.term("3 a fog, a ship more than there is room for (its letter).");
        read("l4,0,0;" + SIX_FOGS + SIX_SHIPS, 6);
        faulted("l4,0,0;" + SIX_FOGS + "f0;" + SIX_SHIPS, 25, 3);
        faulted("l4,0,0;" + SIX_FOGS + SIX_SHIPS + "s0;", 43, 3);
        faulted("l4,0,0;" + SIX_FOGS + SIX_SHIPS + "s", 43, 3);
        faulted("l4,0,0;" + SIX_FOGS + SIX_SHIPS + "o9;", 43, 3);
        faulted("l4,0,0;" + SIX_FOGS + SIX_SHIPS + "f0;", 43, 1);
        faulted("l4,0,0;" + SIX_FOGS + SIX_SHIPS + "x", 43, 1);
        faulted(LONGEST + "s", 58, 3);
    }

    private static void lightReads() {
        Doc.promise(7, "The tape, empty then, is read: how many SHIPS there are.");
        for (int ships = 1; ships <= 6; ships++) {
            Run x = read("l4,0,0;f0;" + SIX_SHIPS.substring(0, 3 * ships), ships);
            x.is(ships, "count", 1);
            x.is(-1000100, "light");
            x.is(ships, "count", 1);
        }
        Run longest = read(LONGEST, 6);
        longest.is(1, "feed", 'l');
        faulted("", 0, 1);
    }

    private static void lightLeavesAllBehindAFault() {
        Doc.promise(7, "-1000100 less the place of a FAULT: all stays.");
        Run x = Run.lit("l10,6,25;f4;f0;f6;s3;b7;m9;g0;o2;s0;");
        x.play("row", 3, 0, 2);
        x.play("set", 3, 1, 2);
        x.play("watches", 2);
        x.play("image", 1);
        x.play("pour", 9);
        x.play("ask", 1, 0);
        x.play("drop", 0);
        x.faulted("", 0, 1);
        x.faulted("l12,12,60;f9;s12;", 14, 2);
        x.faulted("l4,0,0;" + SIX_FOGS + "f", 25, 3);
        x.faulted("l4,0,0;f0;s0;s1;s", 17, 1);
        x.faulted(LONGEST + "s11;", 58, 3);
        x.faulted("l".repeat(120), 1, 1);
    }

    /** Behind a longer text its bytes must not be read on, nor what was read of it be told. */
    private static void aShorterTextBehindALonger() {
        Run x = Run.lit("l10,6,25;f4;f0;f6;s3;b7;m9;g0;o2;s0;");
        x.faulted("l", 1, 1);
        x.faulted("l1", 1, 2);
        x.faulted("l10,6,2", 7, 1);
        x.faulted("l10,6,25;f4;s3;b", 16, 1);
        Run figures = new Run();
        for (char c : "l4444".toCharArray()) {
            figures.play("feed", c);
        }
        figures.is(-1000101, "light");
        figures.faulted("l4", 2, 1);
        Run told = Run.lit("l12,6,60;f4;s9;");
        for (char c : "l4,0,0;f0;".toCharArray()) {
            told.play("feed", c);
        }
        told.is(-1000110, "light");
        told.is(4, "ahead", 0, 5, 0);
        told.is(9, "when", 0, 0);
        told.is(57, "written", 3, 3);
    }

    private static void faultTellsTheLatest() {
        Doc.promise(8, "The number of the latest FAULT; 0 before one.");
        Run x = new Run();
        x.still(0, "fault");
        x.read("l4,0,0;f0;s0;");
        x.still(0, "fault");
        x.play("feed", 'l');
        x.play("feed", '3');
        x.is(0, "fault");
        x.is(-1000101, "light");
        x.still(2, "fault");
        x.is(-1000100, "light");
        x.still(1, "fault");
        x.read("l4,0,0;f0;s0;");
        x.still(1, "fault");
        x.play("feed", 256);
        x.still(1, "fault");
    }
}
