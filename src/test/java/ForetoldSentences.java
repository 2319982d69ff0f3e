import static java.lang.Integer.MAX_VALUE;
import static java.lang.Integer.MIN_VALUE;

import java.math.BigInteger;

/** What the document says of what is FORETOLD, but for logs, sentence by sentence: at each bound and beyond it. */
final class ForetoldSentences {
    private static final int BAD = Due.BAD, STATE = Due.STATE, NONE = Due.NONE;
    private static final String SIX = "l10,6,25;f4;f0;f6;s3;b7;m9;g0;o2;s0;";

    private ForetoldSentences() {
    }

    static void play() {
        nothingChanges();
        ahead();
        aheadRefuses();
        written();
        writtenRefuses();
        whenInCell0();
        whenTheyDiffer();
        whenRefuses();
        quarrel();
        quarrelRefuses();
        pour();
        pourBurns();
        poursRefuses();
        lift();
        liftFromNowOn();
        liftRefuses();
        sent();
        sentRefuses();
        share();
        shareRefuses();
        turns();
        turnsRefuse();
        fair();
        fractions();
        fairRefuses();
        years();
        yearsDraw();
        yearsRefuse();
        image();
        imageRefuses();
        restore();
        restoreRefuses();
    }

    private static void refusesAt(Run x, int refusal, String name, int place, int[] good, int... wrongs) {
        for (int wrong : wrongs) {
            int[] a = good.clone();
            a[place] = wrong;
            x.still(refusal, name, a);
        }
    }

    private static int[] of(int... a) {
        return a;
    }

    private static void nothingChanges() {
        Doc.term("FORETOLD (nothing changes).");
        Run x = Run.lit(SIX);
        x.play("watches", 2);
        x.play("image", 0);
        x.play("row", 1, 0, 2);
        x.play("ask", 1, 0);
        x.play("feed", 'l');
        x.still(0, "ahead", 0, 60, 0);
        x.still(0, "written", 60, 3);
        x.still(1, "when", 0, 0);
        x.still(0, "quarrel", 0);
        x.still(0, "pours", 0, 30);
        x.still(400, "share", 0, 999);
        x.still(0, "who", 0, 0, 1, 0, 2);
        x.still(0, "fogs", 0, 0, 1, 0, 2);
        x.still(0, "sights", 0, 0, 1, 0, 2);
        x.still(0, "drawn", 0, 1, 0);
        x.still(0, "fair", 0, 0, 0);
        x.still(0, "lift", 1, 1);
        x.still(1, "sent", 1, 0);
        x.still(0, "byTurns", 4, 20);
    }

    private static void ahead() {
        Doc.term("AHEAD by n WATCHES (0 to 60) of a SHIP: its CELL; what is LOGGED of it.");
        Doc.promise(18, "AHEAD: its CELL (what = 0), what is LOGGED (1).");
        Run x = Run.lit("l12,5,60;f0;b11;g0;o1;");
        int[][] shipNCellLogged = {
            {0, 0, 11, 0}, {0, 20, 1, 3}, {0, 21, 0, 3}, {0, 60, 0, 3}, {1, 0, 0, 3}, {1, 1, 1, 3}, {1, 59, 1, 3},
            {1, 60, 0, 1}, {2, 0, 1, 3}, {2, 59, 3, 0}, {2, 60, 1, 1}};
        for (int[] due : shipNCellLogged) {
            x.still(due[2], "ahead", due[0], due[1], 0);
            x.still(due[3], "ahead", due[0], due[1], 1);
        }
        // What is foretold goes on where WATCH itself ends.
        DoneSentences.passTo(x, 999);
        x.still(1, "ahead", 1, 0, 0);
        x.still(0, "ahead", 1, 1, 0);
        x.still(0, "ahead", 1, 59, 0);
        x.still(1, "ahead", 1, 60, 0);
    }

    private static void aheadRefuses() {
        Doc.promise(18, "BAD.");
        new Run().still(BAD, "ahead", 0, 0, 0);
        Run x = Run.lit(SIX);
        refusesAt(x, BAD, "ahead", 0, of(0, 0, 0), -1, 6, MIN_VALUE, MAX_VALUE);
        refusesAt(x, BAD, "ahead", 1, of(0, 0, 0), -1, 61, MIN_VALUE, MAX_VALUE);
        refusesAt(x, BAD, "ahead", 2, of(0, 0, 0), -1, 2, MIN_VALUE, MAX_VALUE);
    }

    private static void written() {
        Doc.term("WRITTEN behind n WATCHES (0 to 60): SHIPS (bits) that the keeper SEES; that the lamp does; on which"
            + " they DIFFER; OIL then.");
        Doc.promise(19, "WRITTEN: the keeper (what = 0), the lamp (1), where they DIFFER (2), OIL (3).");
        Run x = Run.lit("l4,3,60;f0;g1;s3;");
        int[] counts = {0, 59, 60};
        int[][] due = {{3, 3, 0, 60}, {3, 3, 0, 1}, {3, 2, 1, 0}};
        for (int k = 0; k < 3; k++) {
            for (int what = 0; what <= 3; what++) {
                x.still(due[k][what], "written", counts[k], what);
            }
        }
        x.play("watches", 2);
        x.play("eyes", 1);
        x.play("pour", 1);
        x.still(3, "written", 0, 0);
        x.still(2, "written", 1, 0);
        x.still(58, "written", 1, 3);
        Run six = Run.lit("l4,0,9;f0;g1;g1;g1;g1;g1;g1;");
        six.still(0, "written", 1, 0);
        six.still(63, "written", 1, 1);
        six.still(63, "written", 1, 2);
    }

    private static void writtenRefuses() {
        Doc.promise(19, "BAD; STATE: no LIGHT (ahead of BAD).");
        Run none = new Run();
        none.still(STATE, "written", 0, 0);
        none.still(STATE, "written", 61, 0);
        none.still(STATE, "written", 0, 4);
        Run x = Run.lit(SIX);
        refusesAt(x, BAD, "written", 0, of(0, 0), -1, 61, MIN_VALUE, MAX_VALUE);
        refusesAt(x, BAD, "written", 1, of(0, 0), -1, 4, MIN_VALUE, MAX_VALUE);
    }

    private static void whenInCell0() {
        Doc.term("WHEN a SHIP is in CELL 0,");
        Doc.promise(20, "WHEN in CELL 0 (how = 0), they DIFFER (1); NONE.");
        Run x = Run.lit("l12,0,0;f0;s11;b11;m11;m10;s0;g1;");
        int[] even = {11, 21, 6, 5, 0, NONE};
        for (int s = 0; s < 6; s++) {
            x.still(even[s], "when", s, 0);
        }
        Run late = Run.lit("l12,0,0;f0;b11;g0;o0;");
        late.still(0, "when", 1, 0);
        late.play("watches", 1);
        late.play("move", 0, 11);
        late.still(22, "when", 0, 0);
        late.still(1, "when", 1, 0);
        late.still(1, "when", 2, 0);
        Run never = Run.lit("l4,0,0;f0;g2;o1;o2;o3;g3;");
        for (int s = 0; s < 5; s++) {
            never.still(NONE, "when", s, 0);
        }
    }

    /** A boat that comes near on odd counts alone, and is seen by both as long as there is OIL: for 60 WATCHES. */
    private static Run boatBehind61() {
        Run x = Run.lit("l12,12,60;f0;o2;");
        x.play("watches", 1);
        x.is(60, "pour", 60);
        x.is(4, "ship", 0, 0);
        return x;
    }

    private static void whenTheyDiffer() {
        Doc.term("when they DIFFER on it: behind how many WATCHES (0 to 60) first; NONE.");
        Run x = boatBehind61();
        x.still(NONE, "when", 0, 1);
        x.play("watches", 1);
        x.still(60, "when", 0, 1);
        x.play("watches", 1);
        x.still(59, "when", 0, 1);
        Run y = Run.lit("l12,12,1;f0;g2;s0;g11;");
        y.still(1, "when", 0, 1);
        y.still(NONE, "when", 1, 1);
        y.still(0, "when", 2, 1);
    }

    private static void whenRefuses() {
        Doc.promise(20, "BAD.");
        new Run().still(BAD, "when", 0, 0);
        Run x = Run.lit(SIX);
        refusesAt(x, BAD, "when", 0, of(0, 0), -1, 6, MIN_VALUE, MAX_VALUE);
        refusesAt(x, BAD, "when", 1, of(0, 0), -1, 2, MIN_VALUE, MAX_VALUE);
    }

    private static void quarrel() {
        Doc.term("QUARREL: behind how many WATCHES (0 to 60) they DIFFER on any SHIP first; the first such SHIP; NONE.");
        Doc.promise(21, "QUARREL: behind how many (what = 0), on whom (1); NONE.");
        Run x = boatBehind61();
        x.still(NONE, "quarrel", 0);
        x.still(NONE, "quarrel", 1);
        x.play("watches", 1);
        x.still(60, "quarrel", 0);
        x.still(0, "quarrel", 1);
        Run several = Run.lit("l12,12,1;f0;s0;g1;g1;s0;");
        several.still(1, "quarrel", 0);
        several.still(1, "quarrel", 1);
        Run last = Run.lit("l12,12,9;f0;s0;s0;s0;s0;s0;g5;");
        last.still(0, "quarrel", 0);
        last.still(5, "quarrel", 1);
        Run never = Run.lit("l12,12,9;f0;s0;");
        never.still(NONE, "quarrel", 0);
        never.still(NONE, "quarrel", 1);
    }

    private static void quarrelRefuses() {
        Doc.promise(21, "BAD; STATE: no LIGHT (ahead of BAD).");
        Run none = new Run();
        none.still(STATE, "quarrel", 0);
        none.still(STATE, "quarrel", 2);
        refusesAt(Run.lit(SIX), BAD, "quarrel", 0, of(0), -1, 2, MIN_VALUE, MAX_VALUE);
    }

    private static void pours(int due, int n, String text) {
        Run.lit(text).still(due, "pours", 0, n);
    }

    private static void pour() {
        Doc.term("POUR for a SHIP, n WATCHES (0 to 30): the least OIL (0 to 60, 60 at most then) poured now by which the"
            + " lamp SEES it behind them; NONE.");
        Doc.promise(22, "POUR; NONE.");
        pours(60, 0, "l12,0,0;f0;g10;");
        pours(NONE, 0, "l12,0,0;f0;g11;");
        pours(50, 0, "l12,0,0;f0;g9;");
        pours(1, 0, "l12,0,0;f0;g4;");
        pours(0, 0, "l12,0,1;f0;g4;");
        pours(0, 0, "l12,0,60;f0;g10;");
        pours(1, 0, "l12,0,59;f0;g10;");
        pours(5, 0, "l12,0,55;f0;g10;");
        pours(NONE, 0, "l12,0,59;f0;g11;");
        pours(0, 0, "l12,0,0;f9;s0;");
        pours(0, 30, "l12,0,0;f9;s11;");
        pours(NONE, 0, "l12,12,60;f0;o3;");
        pours(1, 0, "l12,12,0;f0;o2;");
    }

    private static void pourBurns() {
        pours(31, 30, "l12,0,0;f0;g4;");
        pours(40, 30, "l12,0,0;f0;g5;");
        pours(50, 30, "l12,0,0;f0;g6;");
        pours(60, 30, "l12,0,0;f0;g7;");
        pours(NONE, 30, "l12,0,0;f0;g8;");
        pours(1, 30, "l12,0,30;f0;g4;");
        pours(0, 30, "l12,0,31;f0;g4;");
        pours(59, 29, "l12,0,0;f5;g1;");
        pours(NONE, 29, "l12,0,0;f5;g2;");
        pours(NONE, 30, "l12,0,0;f5;g1;");
        // 60 at most: what is above it can not burn for one WATCH more.
        pours(NONE, 1, "l12,0,59;f0;g9;");
    }

    private static void poursRefuses() {
        Doc.promise(22, "BAD.");
        new Run().still(BAD, "pours", 0, 0);
        Run x = Run.lit(SIX);
        refusesAt(x, BAD, "pours", 0, of(0, 0), -1, 6, MIN_VALUE, MAX_VALUE);
        refusesAt(x, BAD, "pours", 1, of(0, 0), -1, 31, MIN_VALUE, MAX_VALUE);
    }

    private static void lifts(Run x, int n, int which, int often) {
        x.still(which, "lift", n, 0);
        x.still(often, "lift", n, 1);
    }

    private static void lift() {
        Doc.term("LIFT for n WATCHES (1 to 30): the FOG the THICK of which,");
        Doc.term("lets them DIFFER least in all, counted SHIP by SHIP behind each of these, of several the first: which;"
            + " how often.");
        Doc.promise(23, "LIFT: which (what = 0), how often (1).");
        Run always = Run.lit("l4,0,60;f0;f0;g1;g1;");
        lifts(always, 1, 0, 2);
        lifts(always, 30, 0, 60);
        // The lamp sees the gull in any FOG, the keeper in none of THICK 4.
        Run x = Run.lit("l12,4,60;f0;f4;f4;g1;");
        lifts(x, 1, 1, 0);
        lifts(x, 2, 1, 1);
        lifts(x, 3, 1, 1);
        lifts(x, 4, 1, 1);
        lifts(x, 5, 1, 2);
        lifts(x, 30, 1, 10);
        x.play("watches", 1);
        lifts(x, 1, 2, 0);
        lifts(x, 2, 2, 0);
        lifts(x, 3, 1, 1);
        Run last = Run.lit("l12,4,60;f0;f0;f0;f0;f0;f4;g1;");
        lifts(last, 4, 0, 0);
        lifts(last, 5, 5, 0);
        // Now they DIFFER, but behind the WATCH no more.
        lifts(Run.lit("l4,0,9;f0;s1;"), 1, 0, 0);
        // The keeper just sees the gull, if THICK is 0 and not 1.
        lifts(Run.lit("l12,2,60;f0;f4;g1;"), 1, 1, 0);
        // A FOG that hides the gull from both is better left.
        lifts(Run.lit("l4,4,0;f9;f0;g1;"), 2, 1, 1);
    }

    private static void liftFromNowOn() {
        Doc.term("0 from now on,");
        Run x = Run.lit("l12,12,3;f0;f5;g0;");
        x.play("watches", 1);
        // OIL 2 burns at once in THICK 5; in none 1 is left, by which the lamp sees the gull ashore.
        lifts(x, 1, 1, 0);
        Run y = Run.lit("l12,12,2;f0;f5;g0;");
        y.play("watches", 1);
        lifts(y, 1, 0, 1);
    }

    private static void liftRefuses() {
        Doc.promise(23, "BAD; STATE: no LIGHT (ahead of BAD).");
        Run none = new Run();
        none.still(STATE, "lift", 1, 0);
        none.still(STATE, "lift", 0, 0);
        none.still(STATE, "lift", 1, 2);
        Run x = Run.lit(SIX);
        refusesAt(x, BAD, "lift", 0, of(1, 0), 0, -1, 31, MIN_VALUE, MAX_VALUE);
        refusesAt(x, BAD, "lift", 1, of(1, 0), -1, 2, MIN_VALUE, MAX_VALUE);
    }

    private static void sends(Run x, int n, int bits) {
        x.still(Integer.bitCount(bits), "sent", n, 0);
        x.still(bits, "sent", n, 1);
    }

    private static void sent() {
        Doc.term("SENT for n WATCHES (1 to 30): the fewest SHIPS that, not there, leave no SHIP on which they DIFFER behind"
            + " any of these: how many; which (bits), of several the least.");
        Doc.promise(24, "SENT: how many (what = 0), which (1).");
        Run x = Run.lit("l4,12,30;f0;s3;g1;");
        sends(x, 1, 0);
        sends(x, 29, 0);
        sends(x, 30, 2);
        sends(Run.lit("l4,12,31;f0;s3;g1;"), 30, 0);
        // Now they DIFFER, but behind the WATCH no more.
        sends(Run.lit("l4,0,9;f0;s1;"), 30, 0);
        // Behind the first WATCH alone they DIFFER.
        sends(Run.lit("l4,0,9;f0;s0;s2;"), 1, 2);
        sends(Run.lit("l4,0,9;f0;s0;s2;"), 30, 2);
        sends(Run.lit("l4,0,60;f0;g1;g1;g1;g1;g1;g2;"), 1, 63);
        sends(Run.lit("l4,0,60;f0;g1;g1;g1;g1;g1;g2;"), 30, 63);
    }

    private static void sentRefuses() {
        Doc.promise(24, "BAD; STATE: no LIGHT (ahead of BAD).");
        Run none = new Run();
        none.still(STATE, "sent", 1, 0);
        none.still(STATE, "sent", 31, 0);
        none.still(STATE, "sent", 1, 2);
        Run x = Run.lit(SIX);
        refusesAt(x, BAD, "sent", 0, of(1, 0), 0, -1, 31, MIN_VALUE, MAX_VALUE);
        refusesAt(x, BAD, "sent", 1, of(1, 0), -1, 2, MIN_VALUE, MAX_VALUE);
    }

    private static void shares(String fogs, int n, int... due) {
        Run x = Run.lit("l4,0,0;" + fogs + "s0;");
        for (int f = 0; f < due.length; f++) {
            x.still(due[f], "share", f, n);
        }
    }

    private static void share() {
        Doc.term("SHARE of n (0 to 999): each FOG gets as many as n times THICK by all THICK (cut), what is over 1 each to"
            + " the first ones that have any: how many a FOG gets (0, if none has any).");
        Doc.promise(25, "SHARE.");
        shares("f1;", 7, 7);
        shares("f0;f1;", 999, 0, 999);
        shares("f9;", 0, 0);
        shares("f9;", 1, 1);
        shares("f9;", 999, 999);
        shares("f9;f9;f9;f9;f9;f9;", 999, 167, 167, 167, 166, 166, 166);
        shares("f9;f9;f9;f9;f9;f9;", 996, 166, 166, 166, 166, 166, 166);
        shares("f9;f9;f9;f9;f9;f9;", 1, 1, 0, 0, 0, 0, 0);
        shares("f9;f9;f9;f9;f9;f9;", 5, 1, 1, 1, 1, 1, 0);
        shares("f0;f1;f0;f1;f1;", 2, 0, 1, 0, 1, 0);
        shares("f0;f1;f0;f1;f1;", 3, 0, 1, 0, 1, 1);
        shares("f0;f0;f0;", 999, 0, 0, 0);
        shares("f0;", 0, 0);
        shares("f1;f9;", 9, 1, 8);
        shares("f1;f9;", 10, 1, 9);
        shares("f1;f9;", 19, 2, 17);
    }

    private static void shareRefuses() {
        Doc.promise(25, "BAD.");
        new Run().still(BAD, "share", 0, 0);
        Run x = Run.lit(SIX);
        refusesAt(x, BAD, "share", 0, of(0, 0), -1, 3, 6, MIN_VALUE, MAX_VALUE);
        refusesAt(x, BAD, "share", 1, of(0, 0), -1, 1000, MIN_VALUE, MAX_VALUE);
    }

    private static void turn(String text, int m, int... dueByTurns) {
        Run x = Run.lit(text);
        for (int n = 0; n < dueByTurns.length; n++) {
            x.still(dueByTurns[n], "byTurns", n, m);
        }
    }

    private static void turns() {
        Doc.term("TURNS of two, n in all (0 to 4), m WATCHES (1 to 20): the one pours 5 of OIL (60 at most), or does"
            + " nothing, then the other one has EYES 1 less (0 at least), or does nothing, and so on, all now; then m"
            + " WATCHES: how many SHIPS the lamp SEES behind them less how many the keeper does; the one wants it great,"
            + " the other little: what comes of it.");
        Doc.promise(26, "TURNS (may be below 0).");
        // The other one would but hide SHIPS from the keeper: he does nothing, and the one pours at each turn.
        turn("l12,12,0;f0;g1;", 1, -1, 0, 0, 0, 0);
        turn("l12,2,60;f0;g1;", 1, 0, 0, 0, 0, 0);
        turn("l12,0,0;f0;g5;", 1, 0, 0, 0, 0, 0);
        // 10 in all are too few by 1, whatever the turns ahead had poured.
        turn("l12,0,0;f0;g4;", 1, 0, 0, 0, 0, 0);
        turn("l12,0,1;f0;g4;", 1, 0, 0, 0, 1, 1);
        turn("l12,0,6;f0;g4;", 1, 0, 1, 1, 1, 1);
        turn("l12,0,15;f0;g1;", 20, 0, 0, 0, 1, 1);
        turn("l12,0,16;f0;g1;", 20, 0, 1, 1, 1, 1);
        turn("l12,0,20;f0;g1;", 20, 0, 1, 1, 1, 1);
        turn("l12,0,21;f0;g1;", 20, 1, 1, 1, 1, 1);
        turn("l12,0,58;f0;g9;", 1, 0, 0, 0, 0, 0);
        turn("l12,12,0;f0;g1;g1;g1;g1;g1;g1;", 1, -6, 0, 0, 0, 0);
        turn("l12,0,60;f0;g1;g1;g1;g1;g1;g1;", 1, 6, 6, 6, 6, 6);
        turn("l12,0,0;f0;o0;s1;", 2, -1, 0, 0, 0, 0);
    }

    private static void turnsRefuse() {
        Doc.promise(26, "BAD; STATE: no LIGHT (ahead of BAD).");
        Run none = new Run();
        none.still(STATE, "byTurns", 0, 1);
        none.still(STATE, "byTurns", 5, 1);
        none.still(STATE, "byTurns", 0, 0);
        Run x = Run.lit(SIX);
        refusesAt(x, BAD, "byTurns", 0, of(0, 1), -1, 5, MIN_VALUE, MAX_VALUE);
        refusesAt(x, BAD, "byTurns", 1, of(0, 1), 0, -1, 21, MIN_VALUE, MAX_VALUE);
    }

    private static void fairs(Run x, int n, int p, int above, int below) {
        x.still(above, "fair", n, p, 0);
        x.still(below, "fair", n, p, 1);
    }

    private static void fair() {
        Doc.term("FAIR by p of 10 (0 to 10): each FOG has THICK 0 from now on in p of 10 cases, apart: how likely they"
            + " DIFFER on no SHIP behind n WATCHES (0 to 60): a fraction.");
        Doc.promise(30, "FAIR: above (what = 0), below (1).");
        Run oil = Run.lit("l4,12,60;f0;g1;");
        fairs(oil, 59, 5, 1, 1);
        fairs(oil, 60, 5, 0, 1);
        Run ashore = Run.lit("l4,0,0;f9;f9;f9;f9;f9;f9;s0;");
        fairs(ashore, 0, 3, 1, 1);
        fairs(ashore, 60, 3, 1, 1);
        // All six FOGS must be lifted, or the OIL is out too soon: p to the power of six.
        Run six = Run.lit("l12,12,7;f5;f5;f5;f5;f5;f5;g1;");
        fairs(six, 6, 0, 0, 1);
        fairs(six, 6, 1, 1, 1000000);
        fairs(six, 6, 2, 1, 15625);
        fairs(six, 6, 3, 729, 1000000);
        fairs(six, 6, 9, 531441, 1000000);
        fairs(six, 6, 10, 1, 1);
        // The keeper just sees the gull, if THICK is 0 and not 1.
        fairs(Run.lit("l12,3,60;f4;g3;"), 0, 3, 3, 10);
        // A FOG that is lifted or not, apart from the other one.
        Run two = Run.lit("l12,5,60;f3;f3;g2;");
        fairs(two, 0, 1, 1, 1);
        fairs(two, 1, 1, 1, 10);
        fairs(two, 1, 9, 9, 10);
    }

    private static void fractions() {
        Doc.term("but fractions, told as two numbers in lowest terms (0 is 0 by 1).");
        Run x = Run.lit("l12,6,60;f4;g3;");
        int[] above = {0, 1, 1, 3, 2, 1, 3, 7, 4, 9, 1};
        int[] below = {1, 10, 5, 10, 5, 2, 5, 10, 5, 10, 1};
        for (int p = 0; p <= 10; p++) {
            fairs(x, 0, p, above[p], below[p]);
        }
    }

    private static void fairRefuses() {
        Doc.promise(30, "BAD; STATE: no LIGHT (ahead of BAD).");
        Run none = new Run();
        none.still(STATE, "fair", 0, 0, 0);
        none.still(STATE, "fair", 0, 0, 1);
        none.still(STATE, "fair", 61, 0, 0);
        none.still(STATE, "fair", 0, 11, 0);
        none.still(STATE, "fair", 0, 0, 2);
        Run x = Run.lit(SIX);
        refusesAt(x, BAD, "fair", 0, of(0, 0, 0), -1, 61, MIN_VALUE, MAX_VALUE);
        refusesAt(x, BAD, "fair", 1, of(0, 0, 0), -1, 11, MIN_VALUE, MAX_VALUE);
        refusesAt(x, BAD, "fair", 2, of(0, 0, 0), -1, 2, MIN_VALUE, MAX_VALUE);
    }

    private static void drawn(Run x, int n, int seed, int differed, int oil) {
        x.still(differed, "drawn", n, seed, 0);
        x.still(oil, "drawn", n, seed, 1);
    }

    private static void years() {
        Doc.term("YEARS of n WATCHES (0 to 60) by a SEED (X at first): ahead of each X becomes the rest of (X times 16807)"
            + " by 2147483647;");
        Doc.promise(31, "YEARS by a SEED (1 to 999999): on how many (what = 0), OIL (1).");
        // By SEED 1 the rests are 16807, 282475249, 1622650073, 984943658, 1144108930, 470211272, 101027544, ..:
        // the seventh is the first that 3 divides, and THICK is 4 from then on up to the tenth.
        Run x = Run.lit("l4,0,0;f9;s0;");
        int[] differed = {0, 0, 0, 0, 0, 0, 0, 1, 2, 2, 3};
        int[] oil = {0, 7, 5, 3, 1, 0, 7, 6, 5, 4, 3};
        for (int n = 0; n <= 10; n++) {
            drawn(x, n, 1, differed[n], oil[n]);
        }
        // The rests by great SEEDS, 1774564050 and 1774597664, are beyond what an int holds on the way.
        drawn(x, 1, 999997, 1, 8);
        drawn(x, 1, 999999, 0, 7);
        for (int seed : new int[] {1, 2, 48271, 999998, 999999}) {
            int[] far = yearsOfOneSteamer(60, seed);
            drawn(x, 60, seed, far[0], far[1]);
        }
        drawn(x, 0, 999999, 0, 0);
    }

    /** The same LIGHT (one steamer ashore, 4 CELLS, no EYES, no OIL, one FOG of THICK 9) reckoned apart. */
    private static int[] yearsOfOneSteamer(int n, int seed) {
        BigInteger x = BigInteger.valueOf(seed);
        int thick = 9;
        int cell = 0;
        int oil = 0;
        int differed = 0;
        for (int k = 0; k < n; k++) {
            x = x.multiply(BigInteger.valueOf(16807)).mod(BigInteger.valueOf(2147483647));
            thick = x.intValueExact() % 3 == 0 ? x.intValueExact() % 10 : thick;
            cell = cell == 0 ? 2 : cell - 1;
            oil = oil == 0 ? 9 : oil;
            oil = Math.max(0, oil - (thick < 5 ? 1 : 2));
            boolean isSeenByLamp = oil > 0 && cell <= 4 - thick / 2;
            differed += cell > 0 && isSeenByLamp ? 1 : 0;
        }
        return new int[] {differed, oil};
    }

    private static void yearsDraw() {
        Doc.term("THICK of the FOG that is the rest of X by how many there are is the rest of X by 10, if X by 3 leaves 0;"
            + " the SHIP that is the rest of X by how many there are is put in the last CELL, if it is in CELL 0; 9 of"
            + " OIL are poured (60 at most), if there is none; then the WATCH: on how many SHIPS they DIFFERED behind"
            + " each, all together; OIL then.");
        // SEED 3 makes 50421: 3 divides it, 1 is left by 10 and by 2, 3 by 6. SEED 1 makes 16807: 1 is left by 3, 2, 6.
        drawn(Run.lit("l4,0,0;f9;s0;"), 1, 3, 1, 8);
        drawn(Run.lit("l4,0,0;f9;s0;"), 1, 1, 0, 7);
        drawn(Run.lit("l4,0,0;f9;f0;s0;"), 1, 3, 1, 7);
        Run third = Run.lit("l4,0,0;f0;f0;f0;f9;f0;f0;s0;");
        third.play("watches", 3);
        drawn(third, 1, 3, 1, 8);
        drawn(third, 1, 1, 1, 7);
        drawn(Run.lit("l4,0,60;f0;s0;s0;"), 1, 1, 1, 59);
        drawn(Run.lit("l4,0,60;f0;s0;s1;"), 1, 1, 0, 59);
        drawn(Run.lit("l4,0,60;f0;s0;s2;"), 1, 1, 1, 59);
        drawn(Run.lit("l4,0,60;f0;s0;s0;s0;s0;s0;s0;"), 1, 1, 1, 59);
        drawn(Run.lit("l4,0,60;f0;s1;s0;s1;s1;s1;s1;"), 1, 1, 1, 59);
        // A gull ashore is put there too: at 3 behind the WATCH, not at 1.
        drawn(Run.lit("l4,1,9;f0;g0;"), 1, 1, 1, 8);
        drawn(Run.lit("l4,3,9;f0;g0;"), 1, 1, 0, 8);
        drawn(Run.lit("l4,0,1;f0;s2;"), 1, 1, 0, 0);
        drawn(Run.lit("l4,0,1;f0;s2;"), 2, 1, 0, 8);
        drawn(Run.lit("l4,0,2;f0;s2;"), 1, 1, 1, 1);
    }

    private static void yearsRefuse() {
        Doc.promise(31, "BAD; STATE: no LIGHT (ahead of BAD).");
        Run none = new Run();
        none.still(STATE, "drawn", 0, 1, 0);
        none.still(STATE, "drawn", 61, 1, 0);
        none.still(STATE, "drawn", 0, 0, 0);
        none.still(STATE, "drawn", 0, 1, 2);
        Run x = Run.lit(SIX);
        refusesAt(x, BAD, "drawn", 0, of(0, 1, 0), -1, 61, MIN_VALUE, MAX_VALUE);
        refusesAt(x, BAD, "drawn", 1, of(0, 1, 0), 0, -1, 1000000, MIN_VALUE, MAX_VALUE);
        refusesAt(x, BAD, "drawn", 2, of(0, 1, 0), -1, 2, MIN_VALUE, MAX_VALUE);
    }

    private static void image() {
        Doc.promise(32, "An IMAGE (0, 1) is kept of the LIGHT: 1.");
        Run x = Run.lit("l4,0,60;f0;s3;");
        x.is(1, "image", 0);
        x.play("watches", 1);
        x.is(1, "image", 1);
        x.play("watches", 1);
        x.is(2, "count", 6);
        x.is(1, "restore", 0);
        x.is(0, "count", 3);
        x.is(1, "restore", 1);
        x.is(1, "count", 3);
        x.play("watches", 4);
        x.is(1, "image", 0);
        x.is(4, "count", 6);
        x.play("watches", 1);
        x.is(1, "restore", 0);
        x.is(5, "count", 3);
        x.is(1, "restore", 1);
        x.is(1, "count", 3);
    }

    private static void imageRefuses() {
        Doc.promise(32, "BAD; STATE: no LIGHT.");
        Run none = new Run();
        Run x = Run.lit(SIX);
        for (int wrong : new int[] {-1, 2, MIN_VALUE, MAX_VALUE}) {
            none.still(BAD, "image", wrong);
            x.still(BAD, "image", wrong);
        }
        none.still(STATE, "image", 0);
        none.still(STATE, "image", 1);
    }

    private static void restore() {
        Doc.promise(33, "The LIGHT is as an IMAGE kept it (no ACT can be undone then): 1.");
        Run x = Run.lit(SIX);
        x.play("watches", 3);
        x.play("eyes", 11);
        x.play("image", 1);
        x.play("fog", 0, 9);
        x.play("move", 5, 9);
        x.play("eyes", 0);
        x.play("pour", 30);
        x.is(1, "restore", 1);
        int[] eyesOilCellsThick = {11, 21, 10, 4};
        for (int k = 0; k < 4; k++) {
            x.is(eyesOilCellsThick[k], "stand", 3 + k);
        }
        x.is(0, "ship", 5, 0);
        x.is(3, "count", 3);
        x.is(0, "count", 6);
        x.still(STATE, "undo");
        x.read("l4,0,0;f0;g0;");
        x.is(1, "restore", 1);
        x.is(6, "count", 1);
        x.is(3, "count", 2);
        x.is(10, "stand", 5);
        x.is(5, "kind", 4);
        x.is(1, "restore", 1);
        x.is(11, "stand", 3);
    }

    private static void restoreRefuses() {
        Doc.promise(33, "BAD; STATE: none was kept.");
        Run none = new Run();
        Run x = Run.lit(SIX);
        for (int wrong : new int[] {-1, 2, MIN_VALUE, MAX_VALUE}) {
            none.still(BAD, "restore", wrong);
            x.still(BAD, "restore", wrong);
        }
        none.still(STATE, "restore", 0);
        x.still(STATE, "restore", 0);
        x.still(STATE, "restore", 1);
        x.play("image", 1);
        x.still(STATE, "restore", 0);
        x.is(1, "restore", 1);
    }
}
