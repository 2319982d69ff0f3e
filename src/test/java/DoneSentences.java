import static java.lang.Integer.MAX_VALUE;
import static java.lang.Integer.MIN_VALUE;

/** What the document says of seeing, of WATCHES and of ACTS, sentence by sentence: at each bound and beyond it. */
final class DoneSentences {
    private static final int BAD = Due.BAD, STATE = Due.STATE, FULL = Due.FULL;
    private static final String SIX = "l10,6,25;f4;f0;f6;s3;b7;m9;g0;o2;s0;";

    private DoneSentences() {
    }

    static void play() {
        aNewObjectHasNoLight();
        keeperSees();
        lampSees();
        lampSeesByOilAndThick();
        boatsAndTheShore();
        logged();
        differ();
        steamersBarquesMails();
        gullsAndBoats();
        oilBurns();
        watchIsOneMore();
        actsAreKept();
        actsOfEachSort();
        undoTakesTheLatest();
        undoRefuses();
        watchesPass();
        watchesRefuse();
        watchesEndAt999();
        pourIsPoured();
        pourRefuses();
        fogIsAnother();
        fogRefuses();
        eyesAreOthers();
        eyesRefuse();
        moveMoves();
        moveRefuses();
        shipTells();
        shipRefuses();
        standTells();
        standRefuses();
        thickTells();
        thickRefuses();
    }

    /** WATCHES up to a number, by as few calls as can be. */
    static void passTo(Run x, int watch) {
        int left = watch - (int) x.play("count", 3);
        for (; left > 24; left -= 24) {
            x.play("watches", 24);
        }
        if (left > 0) {
            x.play("watches", left);
        }
        x.is(watch, "count", 3);
    }

    private static String law(int cells, int eyes, int oil) {
        return "l" + cells + "," + eyes + "," + oil + ";";
    }

    private static void aNewObjectHasNoLight() {
        Doc.promise(1, "No LIGHT.");
        Run x = new Run();
        for (int what = 0; what <= 7; what++) {
            x.still(0, "count", what);
        }
        x.still(0, "fault");
        x.is(0, "status");
        x.still(Due.NONE, "trace", 0);
        x.still(STATE, "stand", 5);
        x.still(STATE, "undo");
        x.still(STATE, "image", 0);
        x.still(STATE, "restore", 0);
        x.still(BAD, "kind", 0);
        x.still(BAD, "fog", 0, 0);
    }

    /** What is LOGGED of a gull in a CELL, by EYES, OIL and THICK. */
    private static void gullIs(int due, int cell, int eyes, int oil, int thick) {
        Run x = Run.lit(law(12, eyes, oil) + "f" + thick + ";g" + cell + ";");
        x.is(due, "ship", 0, 1);
    }

    private static void keeperSees() {
        Doc.term("The keeper SEES a SHIP, if its CELL is no more than EYES less THICK (of the WATCH that it is);");
        int[][] eyesThickFarthest = {{12, 0, 12}, {11, 0, 11}, {10, 0, 10}, {12, 2, 10}, {6, 2, 4}, {6, 5, 1}, {9, 9, 0},
            {12, 9, 3}, {1, 0, 1}, {0, 0, 0}};
        for (int[] e : eyesThickFarthest) {
            gullIs(1, Math.min(11, e[2]), e[0], 0, e[1]);
            if (e[2] < 11) {
                gullIs(0, e[2] + 1, e[0], 0, e[1]);
            }
        }
        gullIs(0, 0, 0, 0, 1);
        gullIs(0, 0, 8, 0, 9);
        gullIs(0, 0, 0, 0, 9);
        Run x = Run.lit("l12,6,0;f2;f0;f9;g4;g5;g6;g7;");
        x.is(1, "stand", 0);
        x.play("watches", 1);
        // Each gull is one CELL farther out now, in the next FOG.
        x.is(3, "stand", 0);
        x.play("watches", 1);
        x.is(0, "stand", 0);
    }

    private static void lampSees() {
        Doc.term("the lamp, if it has OIL and the CELL is no more than 4 and a tenth of OIL (cut) together, less half of"
            + " THICK (cut).");
        gullIs(2, 4, 0, 1, 0);
        gullIs(0, 4, 0, 0, 0);
        gullIs(0, 1, 0, 0, 0);
        gullIs(0, 5, 0, 9, 0);
        gullIs(2, 5, 0, 10, 0);
        gullIs(2, 10, 0, 60, 0);
        gullIs(0, 11, 0, 60, 0);
        gullIs(0, 10, 0, 59, 0);
        gullIs(2, 0, 0, 9, 9);
        gullIs(0, 1, 0, 9, 9);
        Run x = Run.lit("l12,0,2;f0;g3;");
        x.is(2, "ship", 0, 1);
        x.play("watches", 1);
        x.is(2, "ship", 0, 1);
        x.play("watches", 1);
        x.is(0, "ship", 0, 1);
    }

    private static void lampSeesByOilAndThick() {
        Doc.term("All that is divided is cut towards 0,");
        int[] leastOil = {1, 10, 20, 30, 40, 50, 60};
        int[] mostOil = {9, 19, 29, 39, 49, 59, 60};
        for (int tenth = 0; tenth <= 6; tenth++) {
            for (int thick = 0; thick <= 9; thick++) {
                int[] halves = {0, 0, 1, 1, 2, 2, 3, 3, 4, 4};
                int farthest = 4 + tenth - halves[thick];
                for (int oil : new int[] {leastOil[tenth], mostOil[tenth]}) {
                    // EYES 0: in no CELL but 0 does the keeper see a gull.
                    int keeper = farthest == 0 && thick == 0 ? 1 : 0;
                    gullIs(2 + keeper, farthest, 0, oil, thick);
                    gullIs(0, farthest + 1, 0, oil, thick);
                }
            }
        }
    }

    private static void boatsAndTheShore() {
        Doc.term("But a boat is not SEEN by either beyond CELL 2, and a SHIP in CELL 0 that is no gull (nor a boat) is"
            + " SEEN by both in any case.");
        Run boats = Run.lit("l12,12,60;f0;o0;o1;o2;o3;o4;o11;");
        boats.is(7, "stand", 0);
        boats.is(7, "stand", 1);
        Run keeper = Run.lit("l12,12,0;f0;o2;o3;");
        keeper.is(1, "stand", 0);
        keeper.is(0, "stand", 1);
        Run lamp = Run.lit("l12,0,9;f0;o2;o3;g3;");
        lamp.is(0, "stand", 0);
        lamp.is(5, "stand", 1);
        Run near = Run.lit("l12,1,0;f0;o0;o1;o2;");
        near.is(3, "stand", 0);
        Run dark = Run.lit("l12,0,0;f9;s0;b0;m0;g0;o0;s1;");
        int[] due = {3, 3, 3, 0, 0, 0};
        for (int s = 0; s < 6; s++) {
            dark.is(due[s], "ship", s, 1);
        }
        Run one = Run.lit("l12,0,0;f9;b1;m1;");
        one.is(0, "stand", 0);
        one.is(0, "stand", 1);
        Run clear = Run.lit("l12,0,0;f0;g0;o0;");
        clear.is(3, "stand", 0);
        clear.is(0, "stand", 1);
    }

    private static void logged() {
        Doc.term("LOGGED of a SHIP: 1 if the keeper SEES it, and 2 if the lamp does.");
        gullIs(0, 5, 4, 9, 0);
        gullIs(1, 5, 5, 9, 0);
        gullIs(2, 4, 3, 9, 0);
        gullIs(3, 4, 4, 9, 0);
    }

    private static void differ() {
        Doc.term("They DIFFER on a SHIP that just one SEES.");
        Run x = Run.lit("l12,5,9;f0;g5;g4;g6;s0;");
        x.is(1, "stand", 2);
        Run y = Run.lit("l12,3,9;f0;g3;g4;g5;s0;");
        y.is(2, "stand", 2);
    }

    /** CELLS of SHIPS of one SORT, and where they go on an even WATCH (and then on an odd one, from the same CELLS). */
    private static void goes(char sort, int[] from, int[] even, int[] odd) {
        for (int parity = 0; parity <= 1; parity++) {
            int[] due = parity == 0 ? even : odd;
            for (int k = 0; k < from.length; k++) {
                Run x = Run.lit("l6,0,0;f0;" + sort + "0;");
                x.play("watches", 2 + parity);
                x.play("move", 0, from[k]);
                x.still(due[k], "ship", 0, 2);
                x.play("watches", 1);
                x.is(due[k], "ship", 0, 0);
            }
        }
    }

    private static void steamersBarquesMails() {
        Doc.term("A WATCH, SHIP by SHIP: a steamer comes one CELL in; a barque so, but only on WATCHES that are even; a"
            + " mail as a steamer, twice; all stay in CELL 0 once there.");
        int[] from = {0, 1, 2, 3, 5};
        int[] oneIn = {0, 0, 1, 2, 4};
        goes('s', from, oneIn, oneIn);
        goes('b', from, oneIn, from);
        int[] twoIn = {0, 0, 0, 1, 3};
        goes('m', from, twoIn, twoIn);
        Run x = Run.lit("l4,0,0;f0;s1;b1;m1;m2;");
        for (int k = 0; k < 4; k++) {
            x.play("watches", 1);
            for (int s = 0; s < 4; s++) {
                x.is(0, "ship", s, 0);
            }
        }
    }

    private static void gullsAndBoats() {
        Doc.term("A gull goes one CELL out on even WATCHES, one in on odd ones (0 at least, the last one at most); a boat"
            + " as a gull, but two CELLS.");
        int[] from = {0, 1, 2, 3, 4, 5};
        goes('g', from, new int[] {1, 2, 3, 4, 5, 5}, new int[] {0, 0, 1, 2, 3, 4});
        goes('o', from, new int[] {2, 3, 4, 5, 5, 5}, new int[] {0, 0, 0, 1, 2, 3});
        Run least = Run.lit("l4,0,0;f0;g3;o2;o3;g2;");
        least.play("watches", 1);
        for (int s = 0; s < 4; s++) {
            least.is(3, "ship", s, 0);
        }
        Run most = Run.lit("l12,0,0;f0;g11;o10;o11;g10;o9;");
        most.play("watches", 1);
        for (int s = 0; s < 5; s++) {
            most.is(11, "ship", s, 0);
        }
    }

    private static void burns(int oil, int thick, int due) {
        Run x = Run.lit(law(4, 0, oil) + "f" + thick + ";f" + (9 - thick) + ";s0;");
        x.play("watches", 1);
        x.is(due, "count", 4);
        x.is(due, "stand", 4);
    }

    private static void oilBurns() {
        Doc.term("Then OIL is 1 less (0 at least), 2 less, if THICK of the WATCH is 5 or more.");
        burns(60, 4, 59);
        burns(60, 5, 58);
        burns(60, 0, 59);
        burns(60, 9, 58);
        burns(0, 4, 0);
        burns(0, 5, 0);
        burns(1, 4, 0);
        burns(1, 5, 0);
        burns(2, 4, 1);
        burns(2, 5, 0);
        burns(3, 5, 1);
        Run x = Run.lit("l4,0,10;f4;f5;s0;");
        int[] due = {9, 7, 6, 4, 3, 1, 0, 0, 0};
        for (int oil : due) {
            x.play("watches", 1);
            x.is(oil, "count", 4);
        }
    }

    private static void watchIsOneMore() {
        Doc.term("WATCH is 1 more.");
        Run x = Run.lit(SIX);
        x.is(0, "count", 3);
        x.play("watches", 1);
        x.is(1, "count", 3);
        x.play("watches", 24);
        x.is(25, "count", 3);
        passTo(x, 998);
        x.play("watches", 1);
        x.is(999, "count", 3);
    }

    private static void actsAreKept() {
        Doc.term("ACTS (24 at most are kept, of more the oldest is forgotten; each can be undone, the latest first):");
        Run x = Run.lit(SIX);
        x.play("watches", 23);
        x.is(23, "count", 6);
        x.play("watches", 1);
        x.is(24, "count", 6);
        x.play("watches", 1);
        x.is(24, "count", 6);
        for (int left = 23; left >= 0; left--) {
            x.is(left, "undo");
            x.is(left + 1, "count", 3);
        }
        x.still(STATE, "undo");
        x.play("watches", 1);
        x.is(1, "count", 6);
        x.is(0, "undo");
        x.is(1, "count", 3);
        Run exactly = Run.lit(SIX);
        exactly.play("watches", 24);
        for (int left = 23; left >= 0; left--) {
            exactly.is(left, "undo");
        }
        exactly.is(0, "count", 3);
        exactly.still(STATE, "undo");
        Run round = Run.lit(SIX);
        for (int k = 0; k < 60; k++) {
            round.play("pour", 1 + k % 2);
            if (k % 5 == 4) {
                round.play("undo");
            }
        }
        round.is(23, "count", 6);
        round.play("pour", 1);
        round.is(24, "count", 6);
    }

    private static void actsOfEachSort() {
        Doc.term("a WATCH; OIL is poured (60 at most); THICK of a FOG is another; EYES are others; a SHIP is put in a"
            + " CELL.");
        Run x = Run.lit("l10,6,58;f4;f0;s3;g2;");
        x.is(59, "pour", 1);
        x.is(60, "pour", 1);
        x.is(60, "pour", 1);
        x.is(60, "pour", 60);
        x.is(3, "undo");
        x.is(2, "undo");
        x.is(60, "count", 4);
        x.is(1, "undo");
        x.is(59, "count", 4);
        x.is(0, "fog", 1, 9);
        x.is(6, "eyes", 12);
        x.is(3, "move", 0, 9);
        x.is(0, "watches", 1);
        x.is(5, "count", 6);
        x.is(4, "undo");
        x.is(9, "ship", 0, 0);
        x.is(2, "ship", 1, 0);
        x.is(0, "count", 3);
        x.is(59, "count", 4);
        x.is(3, "undo");
        x.is(3, "ship", 0, 0);
        x.is(12, "stand", 3);
        x.is(2, "undo");
        x.is(6, "stand", 3);
        x.is(9, "thick", 1);
        x.is(1, "undo");
        x.is(0, "thick", 1);
        x.is(0, "undo");
        x.is(58, "count", 4);
        x.still(STATE, "undo");
    }

    private static void undoTakesTheLatest() {
        Doc.promise(9, "The latest ACT is undone: how many can be undone yet.");
        Run x = Run.lit(SIX);
        x.play("eyes", 1);
        x.play("eyes", 2);
        x.is(1, "undo");
        x.is(1, "stand", 3);
        x.play("eyes", 3);
        x.is(1, "undo");
        x.is(1, "stand", 3);
        x.is(0, "undo");
        x.is(6, "stand", 3);
        Run y = Run.lit(SIX);
        y.play("watches", 3);
        y.is(2, "undo");
        y.is(2, "count", 3);
    }

    private static void undoRefuses() {
        Doc.promise(9, "STATE: none.");
        new Run().still(STATE, "undo");
        Run x = Run.lit(SIX);
        x.still(STATE, "undo");
        x.still(BAD, "watches", 25);
        x.still(BAD, "pour", 61);
        x.still(STATE, "move", 0, 3);
        x.still(STATE, "undo");
        x.play("pour", 1);
        x.is(0, "undo");
        x.still(STATE, "undo");
        x.play("image", 0);
        x.play("pour", 1);
        x.play("restore", 0);
        x.still(STATE, "undo");
    }

    private static void watchesPass() {
        Doc.promise(10, "n WATCHES (1 to 24), an ACT each: on which SHIPS they DIFFER then (bits).");
        Run x = Run.lit(SIX);
        x.is(0, "watches", 1);
        x.is(17, "watches", 1);
        x.is(2, "count", 6);
        Run y = Run.lit(SIX);
        y.is(17, "watches", 2);
        y.is(2, "count", 6);
        Run z = Run.lit("l4,12,24;f0;g0;g1;g2;s3;");
        z.is(7, "watches", 24);
        z.is(24, "count", 6);
        z.is(24, "count", 3);
        Run w = Run.lit("l4,12,25;f0;g0;g1;g2;s3;");
        w.is(0, "watches", 24);
        w.still(BAD, "watches", 25);
        w.still(BAD, "watches", 0);
    }

    private static void watchesRefuse() {
        Doc.promise(10, "BAD; STATE: no LIGHT (ahead of BAD);");
        Run none = new Run();
        Run x = Run.lit(SIX);
        for (int wrong : new int[] {0, -1, 25, MIN_VALUE, MAX_VALUE}) {
            none.still(STATE, "watches", wrong);
            x.still(BAD, "watches", wrong);
        }
        none.still(STATE, "watches", 1);
    }

    private static void watchesEndAt999() {
        Doc.promise(10, "FULL: WATCH would be above 999.");
        Run x = Run.lit(SIX);
        passTo(x, 975);
        x.play("watches", 1);
        x.still(FULL, "watches", 24);
        x.still(BAD, "watches", 25);
        x.still(BAD, "watches", MAX_VALUE);
        x.still(BAD, "watches", 0);
        x.play("undo");
        x.play("watches", 24);
        x.is(999, "count", 3);
        x.still(FULL, "watches", 1);
        x.still(FULL, "watches", 24);
        x.still(BAD, "watches", 0);
        x.is(23, "undo");
        x.still(FULL, "watches", 2);
        x.play("watches", 1);
        x.is(999, "count", 3);
    }

    private static void pourIsPoured() {
        Doc.promise(11, "OIL poured (1 to 60): OIL then.");
        Run x = Run.lit("l4,0,0;f0;s0;");
        x.is(1, "pour", 1);
        x.is(60, "pour", 60);
        x.is(60, "stand", 4);
        Run y = Run.lit("l4,0,0;f0;s0;");
        y.is(60, "pour", 60);
        y.is(60, "pour", 1);
        Run z = Run.lit("l4,0,30;f0;s0;");
        z.is(59, "pour", 29);
        z.is(0, "undo");
        z.is(60, "pour", 30);
        z.is(0, "undo");
        z.is(60, "pour", 31);
        z.is(0, "undo");
        z.is(30, "count", 4);
    }

    private static void pourRefuses() {
        Doc.promise(11, "BAD; STATE: no LIGHT (ahead of BAD).");
        Run none = new Run();
        Run x = Run.lit(SIX);
        for (int wrong : new int[] {0, -1, 61, MIN_VALUE, MAX_VALUE}) {
            none.still(STATE, "pour", wrong);
            x.still(BAD, "pour", wrong);
        }
        none.still(STATE, "pour", 1);
    }

    private static void fogIsAnother() {
        Doc.promise(12, "THICK (0 to 9): what it was.");
        Run x = Run.lit(SIX);
        x.is(4, "fog", 0, 9);
        x.is(9, "fog", 0, 0);
        x.is(0, "stand", 6);
        x.is(6, "fog", 2, 1);
        x.is(1, "thick", 2);
        x.is(0, "thick", 1);
        x.is(3, "count", 6);
    }

    private static void fogRefuses() {
        Doc.promise(12, "BAD.");
        Run none = new Run();
        Run x = Run.lit(SIX);
        none.still(BAD, "fog", 0, 0);
        none.still(BAD, "fog", 0, 10);
        for (int wrong : new int[] {-1, 3, 6, MIN_VALUE, MAX_VALUE}) {
            x.still(BAD, "fog", wrong, 0);
        }
        for (int wrong : new int[] {-1, 10, MIN_VALUE, MAX_VALUE}) {
            x.still(BAD, "fog", 0, wrong);
        }
    }

    private static void eyesAreOthers() {
        Doc.promise(13, "EYES (0 to 12): what they were.");
        Run x = Run.lit(SIX);
        x.is(6, "eyes", 12);
        x.is(12, "stand", 3);
        x.is(12, "eyes", 0);
        x.is(0, "stand", 3);
        x.is(0, "eyes", 1);
        x.is(3, "count", 6);
    }

    private static void eyesRefuse() {
        Doc.promise(13, "BAD; STATE: no LIGHT (ahead of BAD).");
        Run none = new Run();
        Run x = Run.lit(SIX);
        for (int wrong : new int[] {-1, 13, MIN_VALUE, MAX_VALUE}) {
            none.still(STATE, "eyes", wrong);
            x.still(BAD, "eyes", wrong);
        }
        none.still(STATE, "eyes", 0);
    }

    private static void moveMoves() {
        Doc.promise(14, "A SHIP is put in a CELL: where it was.");
        Run x = Run.lit(SIX);
        x.is(3, "move", 0, 9);
        x.is(9, "move", 0, 0);
        x.is(0, "move", 5, 9);
        x.is(9, "ship", 5, 0);
        x.is(0, "ship", 0, 0);
        x.is(3, "count", 6);
        Run twelve = Run.lit("l12,0,0;f0;o0;");
        twelve.is(0, "move", 0, 11);
        twelve.is(11, "move", 0, 1);
    }

    private static void moveRefuses() {
        Doc.promise(14, "BAD; STATE: it is there.");
        Run none = new Run();
        none.still(BAD, "move", 0, 0);
        Run x = Run.lit(SIX);
        for (int wrong : new int[] {-1, 6, MIN_VALUE, MAX_VALUE}) {
            x.still(BAD, "move", wrong, 3);
        }
        for (int wrong : new int[] {-1, 10, 11, MIN_VALUE, MAX_VALUE}) {
            x.still(BAD, "move", 0, wrong);
        }
        int[] cells = {3, 7, 9, 0, 2, 0};
        for (int s = 0; s < 6; s++) {
            x.still(STATE, "move", s, cells[s]);
        }
        Run one = Run.lit("l4,0,0;f0;s0;");
        one.still(BAD, "move", 1, 1);
        one.still(STATE, "move", 0, 0);
    }

    private static void shipTells() {
        Doc.promise(15, "Of a SHIP: 0 its CELL, 1 what is LOGGED, 2 where it goes in this WATCH (its CELL then).");
        Run x = Run.lit(SIX);
        int[][] due = {{3, 2, 2}, {7, 0, 6}, {9, 0, 7}, {0, 3, 1}, {2, 3, 4}, {0, 3, 0}};
        for (int s = 0; s < 6; s++) {
            for (int what = 0; what <= 2; what++) {
                x.still(due[s][what], "ship", s, what);
            }
        }
        x.play("watches", 1);
        int[][] then = {{2, 3, 1}, {6, 3, 6}, {7, 0, 5}, {1, 3, 0}, {4, 0, 2}, {0, 3, 0}};
        for (int s = 0; s < 6; s++) {
            for (int what = 0; what <= 2; what++) {
                x.still(then[s][what], "ship", s, what);
            }
        }
    }

    private static void shipRefuses() {
        Doc.promise(15, "BAD.");
        new Run().still(BAD, "ship", 0, 0);
        Run x = Run.lit(SIX);
        for (int wrong : new int[] {-1, 6, MIN_VALUE, MAX_VALUE}) {
            x.still(BAD, "ship", wrong, 0);
        }
        for (int wrong : new int[] {-1, 3, MIN_VALUE, MAX_VALUE}) {
            x.still(BAD, "ship", 0, wrong);
        }
    }

    private static void standTells() {
        Doc.promise(16, "0 whom the keeper SEES (bits), 1 whom the lamp does, 2 on whom they DIFFER, 3 EYES, 4 OIL, 5"
            + " CELLS, 6 THICK of this WATCH.");
        Doc.term("Sets are bits.");
        Run x = Run.lit(SIX);
        int[] due = {56, 57, 1, 6, 25, 10, 4};
        for (int what = 0; what <= 6; what++) {
            x.still(due[what], "stand", what);
        }
        x.play("watches", 1);
        x.still(0, "stand", 6);
        Run all = Run.lit("l12,12,60;f0;s0;b1;m2;g3;o2;s0;");
        all.is(63, "stand", 0);
        all.is(63, "stand", 1);
        all.is(0, "stand", 2);
        Run last = Run.lit("l12,0,1;f0;g9;g9;g9;g9;g9;g1;");
        last.is(0, "stand", 0);
        last.is(32, "stand", 1);
        last.is(32, "stand", 2);
    }

    private static void standRefuses() {
        Doc.promise(16, "BAD; STATE: no LIGHT (ahead of BAD).");
        Run none = new Run();
        Run x = Run.lit(SIX);
        for (int wrong : new int[] {-1, 7, MIN_VALUE, MAX_VALUE}) {
            none.still(STATE, "stand", wrong);
            x.still(BAD, "stand", wrong);
        }
        none.still(STATE, "stand", 0);
        none.still(STATE, "stand", 6);
    }

    private static void thickTells() {
        Doc.promise(17, "THICK of the WATCH that is n on (0 to 60).");
        Run x = Run.lit("l4,0,0;f1;f2;f3;f4;f5;f6;s0;");
        for (int n : new int[] {0, 1, 5, 6, 59, 60}) {
            x.still(n % 6 + 1, "thick", n);
        }
        x.play("watches", 7);
        x.still(2, "thick", 0);
        x.still(2, "thick", 60);
        x.still(1, "thick", 59);
    }

    private static void thickRefuses() {
        Doc.promise(17, "BAD; STATE: no LIGHT (ahead of BAD).");
        Run none = new Run();
        Run x = Run.lit(SIX);
        for (int wrong : new int[] {-1, 61, MIN_VALUE, MAX_VALUE}) {
            none.still(STATE, "thick", wrong);
            x.still(BAD, "thick", wrong);
        }
        none.still(STATE, "thick", 0);
    }
}
