import static java.lang.Integer.MAX_VALUE;
import static java.lang.Integer.MIN_VALUE;

/** The document's promises 1 to 39, one method each, by answers that were reckoned by hand. */
public final class PromiseTest {
    private static final int BAD = Due.BAD, STATE = Due.STATE, FULL = Due.FULL, NONE = Due.NONE;
    /**
     * SHIPS' CELLS and what is LOGGED of them, now and behind 1 to 5 WATCHES:
     * now  3 7 9 0 2 0  2 0 0 3 3 3   THICK 4, OIL 25
     * 1    2 6 7 1 4 0  3 3 0 3 0 3   THICK 0, OIL 24
     * 2    1 6 5 0 2 0  2 0 0 3 2 3   THICK 6, OIL 23
     * 3    0 5 3 1 4 0  3 0 2 3 0 3   THICK 4, OIL 21
     * 4    0 5 1 0 2 0  3 3 3 3 3 3   THICK 0, OIL 20
     * 5    0 4 0 1 4 0  3 0 3 2 0 3   THICK 6, OIL 19
     */
    private static final String SIX = "l10,6,25;f4;f0;f6;s3;b7;m9;g0;o2;s0;";
    private static final int[][] CELLS = {
        {3, 7, 9, 0, 2, 0}, {2, 6, 7, 1, 4, 0}, {1, 6, 5, 0, 2, 0}, {0, 5, 3, 1, 4, 0}, {0, 5, 1, 0, 2, 0},
        {0, 4, 0, 1, 4, 0}};
    private static final int[][] LOGGED = {
        {2, 0, 0, 3, 3, 3}, {3, 3, 0, 3, 0, 3}, {2, 0, 0, 3, 2, 3}, {3, 0, 2, 3, 0, 3}, {3, 3, 3, 3, 3, 3},
        {3, 0, 3, 2, 0, 3}};
    private static final int[] KEEPER = {56, 43, 40, 41, 63, 37};
    private static final int[] LAMP = {57, 43, 57, 45, 63, 45};
    private static final int[] DIFFER = {1, 0, 17, 4, 0, 8};
    private static final int[] THICK = {4, 0, 6, 4, 0, 6};
    private static final int[] OIL = {25, 24, 23, 21, 20, 19};
    private static final int[] WRONG = {-1, MIN_VALUE, MAX_VALUE};

    private static void is(String what, long got, long want) {
        Due.is(what, got, want);
    }

    private static LampLogs six() {
        return Due.lit(SIX);
    }

    /** All that a LIGHT shows, as one number: to see that nothing changed. */
    private static long shown(LampLogs x) {
        long sum = 0;
        for (int what = 0; what < 8; what++) {
            sum = sum * 31 + x.count(what);
        }
        for (int what = 0; what < 7; what++) {
            sum = sum * 31 + x.stand(what);
        }
        for (int one = 0; one < 6; one++) {
            sum = sum * 31 + x.ship(one, 0) * 7 + x.kind(one);
        }
        for (int n = 0; n < 6; n++) {
            sum = sum * 31 + x.thick(n);
        }
        return sum;
    }

    private static void newObject1() {
        LampLogs x = new LampLogs();
        for (int what = 0; what < 8; what++) {
            is("1 count", x.count(what), 0);
        }
        is("1 no light", x.stand(0), STATE);
        is("1 fault", x.fault(), 0);
        is("1 status", x.status(), 0);
        is("1 trace", x.trace(0), NONE);
        for (int row = 0; row < 8; row++) {
            is("1 rows are missing", x.drop(row), Due.NULL);
        }
        is("1 NONE", LampLogs.NONE, -1000000);
        is("1 BAD", LampLogs.BAD, -1000001);
        is("1 STATE", LampLogs.STATE, -1000002);
        is("1 FULL", LampLogs.FULL, -1000003);
    }

    private static void row2() {
        LampLogs x = new LampLogs();
        is("2 none", x.row(0, 0, 0), 0);
        is("2 forty", x.row(7, 2, 40), 40);
        is("2 both there", x.count(0), 2);
        for (int v : new int[] {-1, 8, MIN_VALUE, MAX_VALUE}) {
            is("2 no row", x.row(v, 0, 1), BAD);
        }
        for (int v : new int[] {-1, 3, MIN_VALUE, MAX_VALUE}) {
            is("2 no lane", x.row(0, v, 1), BAD);
        }
        is("2 41", x.row(0, 0, 41), BAD);
        is("2 many", x.row(0, 0, MAX_VALUE), BAD);
        is("2 BAD ahead of SIZE", x.row(8, 0, -1), BAD);
        is("2 BAD ahead of SIZE", x.row(0, 3, -1), BAD);
        is("2 SIZE", x.row(7, 0, -1), Due.SIZE);
        is("2 SIZE", x.row(7, 0, MIN_VALUE), Due.SIZE);
        is("2 the row stays", x.set(7, 39, 70000), 70000);
        is("2 in place", x.row(7, 2, 3), 3);
        is("2 shorter", x.set(7, 3, 1), Due.PLACE);
        is("2 again", x.row(7, 2, 40), 40);
        is("2 a row for the copy", x.row(6, 2, 40), 40);
        LampLogs y = six();
        y.row(0, 0, 2);
        y.set(0, 0, 3);
        y.set(0, 1, 2);
        is("2 items as set", y.who(0, 1, 0, 0, 2), 56);
        y.row(0, 0, 2);
        is("2 items are 0 anew", y.who(2, 1, 0, 0, 2), 512);
    }

    private static void set3() {
        LampLogs x = new LampLogs();
        x.row(0, 0, 2);
        x.row(1, 1, 2);
        x.row(2, 2, 2);
        is("3 byte", x.set(0, 0, 127), 127);
        is("3 byte cut", x.set(0, 1, 128), -128);
        is("3 byte cut", x.set(0, 1, 511), -1);
        is("3 byte cut", x.set(0, 1, 256 + 7), 7);
        is("3 short", x.set(1, 0, 32767), 32767);
        is("3 short cut", x.set(1, 0, 32768), -32768);
        is("3 short cut", x.set(1, 1, 65536 + 9), 9);
        is("3 int", x.set(2, 0, MAX_VALUE), MAX_VALUE);
        is("3 int", x.set(2, 1, MIN_VALUE), MIN_VALUE);
        is("3 no row", x.set(-1, 0, 0), BAD);
        is("3 no row", x.set(8, 0, 0), BAD);
        is("3 NULL ahead of PLACE", x.set(3, -1, 0), Due.NULL);
        for (int i : new int[] {-1, 2, MIN_VALUE, MAX_VALUE}) {
            is("3 PLACE", x.set(2, i, 0), Due.PLACE);
        }
        x.row(4, 2, 0);
        is("3 no place at all", x.set(4, 0, 0), Due.PLACE);
    }

    private static int fitting(LampLogs x, int row, int i, int n) {
        return x.who(0, 1, row, i, n);
    }

    private static void copy4() {
        LampLogs x = six();
        x.row(0, 0, 5);
        x.set(0, 0, 3);
        x.set(0, 1, 2);
        x.set(0, 2, 3);
        is("4 within itself", x.copy(0, 0, 0, 1, 4), 4);
        is("4 as they were ahead", fitting(x, 0, 1, 3), 56);
        is("4 back", x.copy(0, 1, 0, 0, 4), 4);
        is("4 as they were ahead", fitting(x, 0, 0, 3), 56);
        x.row(1, 0, 3);
        is("4 to another", x.copy(0, 0, 1, 0, 3), 3);
        is("4 it came", fitting(x, 1, 0, 3), 56);
        is("4 none, at the ends", x.copy(0, 5, 1, 3, 0), 0);
        is("4 no row", x.copy(8, 0, 1, 0, 1), BAD);
        is("4 no row", x.copy(0, 0, -1, 0, 1), BAD);
        is("4 NULL", x.copy(2, 0, 1, 0, 1), Due.NULL);
        is("4 NULL", x.copy(1, -1, 2, 0, 1), Due.NULL);
        x.row(3, 1, 3);
        is("4 STORE ahead of PLACE", x.copy(0, -1, 3, 0, 1), Due.STORE);
        is("4 STORE of none", x.copy(0, 0, 3, 0, 0), Due.STORE);
        is("4 NULL ahead of STORE", x.copy(3, 0, 2, 0, 0), Due.NULL);
        for (int v : WRONG) {
            is("4 PLACE", x.copy(0, v, 1, 0, 1), Due.PLACE);
            is("4 PLACE", x.copy(0, 0, 1, v, 1), Due.PLACE);
            is("4 PLACE", x.copy(0, 0, 1, 0, v), Due.PLACE);
        }
        is("4 beyond its end", x.copy(0, 3, 1, 0, 3), Due.PLACE);
        is("4 beyond the other's", x.copy(0, 0, 1, 1, 3), Due.PLACE);
        is("4 none beyond the end", x.copy(0, 6, 1, 0, 0), Due.PLACE);
        is("4 nothing changed", fitting(x, 1, 0, 3), 56);
    }

    private static void drop5() {
        LampLogs x = new LampLogs();
        x.row(3, 1, 17);
        is("5 how many", x.drop(3), 17);
        is("5 missing", x.drop(3), Due.NULL);
        is("5 none there", x.count(0), 0);
        is("5 no row", x.drop(8), BAD);
        is("5 no row", x.drop(-1), BAD);
    }

    private static void feed6() {
        LampLogs x = new LampLogs();
        is("6 below", x.feed(-1), BAD);
        is("6 above", x.feed(256), BAD);
        is("6 least", x.feed(0), 1);
        is("6 greatest", x.feed(255), 2);
        for (int k = 3; k <= 120; k++) {
            is("6 more", x.feed('a'), k);
        }
        is("6 full", x.feed('a'), FULL);
        is("6 BAD ahead of FULL", x.feed(256), BAD);
        is("6 stays", x.count(7), 120);
    }

    private static void faultOf(String text, int place, int number) {
        LampLogs x = new LampLogs();
        is("7 " + text, Due.read(x, text), -1000100 - place);
        is("8 " + text, x.fault(), number);
        is("7 empty then", x.count(7), 0);
    }

    private static void light7() {
        LampLogs x = new LampLogs();
        is("7 six", Due.read(x, SIX), 6);
        is("7 empty then", x.count(7), 0);
        x.watches(2);
        long before = shown(x);
        is("7 fault", Due.read(x, "l4,0,0;f0;q"), -1000110);
        is("7 all stays", shown(x), before);
        is("7 foretold ahead of the next", x.written(9, 3), 11);
        is("7 another", Due.read(x, "l12,12,60;f9;f09;f00;o11;"), 1);
        is("7 watch", x.count(3), 0);
        is("7 no act", x.count(6), 0);
        is("7 fogs", x.count(2), 3);
        is("7 least", Due.read(x, "l4,0,0;f0;s03;"), 1);
        is("7 two figures", x.ship(0, 0), 3);
        String fogs = "f1;f2;f3;f4;f5;f6;";
        is("7 most of all", Due.read(x, "l04,00,00;" + fogs + "s0;b1;m2;g3;o0;s1;"), 6);
        int[] sorts = {1, 2, 3, 4, 5, 1};
        for (int one = 0; one < 6; one++) {
            is("7 sort", x.kind(one), sorts[one]);
            is("7 thick", x.thick(one), one + 1);
        }
    }

    private static void faults8() {
        faultOf("", 0, 1);
        faultOf("f0;", 0, 1);
        faultOf("L4,0,0;", 0, 1);
        faultOf(" l4,0,0;", 0, 1);
        faultOf("l", 1, 1);
        faultOf("l,", 1, 1);
        faultOf("l3,0,0;", 1, 2);
        faultOf("l13,0,0;", 1, 2);
        faultOf("l004,0,0;", 1, 1);
        faultOf("l1234", 1, 1);
        faultOf("l4;0,0;", 2, 1);
        faultOf("l4,13,0;", 3, 2);
        faultOf("l4,0;0;", 4, 1);
        faultOf("l4,0,61;", 5, 2);
        faultOf("l4,0,600;", 5, 1);
        faultOf("l4,0,0,", 6, 1);
        faultOf("l4,0,0;s0;", 7, 1);
        faultOf("l4,0,0;f10;", 8, 2);
        faultOf("l4,0,0;f;", 8, 1);
        faultOf("l4,0,0;f0", 9, 1);
        faultOf("l4,0,0;f0;", 10, 1);
        faultOf("l4,0,0;f0;7", 10, 1);
        faultOf("l4,0,0;f0;q0;", 10, 1);
        faultOf("l4,0,0;f0;s4;", 11, 2);
        faultOf("l4,0,0;f0;s0", 12, 1);
        faultOf("l4,0,0;f0;s0;f0;", 13, 1);
        faultOf("l4,0,0;f0;s0; ", 13, 1);
        faultOf("l4,0,0;f0;s0;;", 13, 1);
        faultOf("l4,0,0;f1;f2;f3;f4;f5;f6;f7;s0;", 25, 3);
        faultOf("l4,0,0;f0;s0;s0;s0;s0;s0;s0;g9;", 28, 3);
        faultOf("l4,0,0;f0;s0;s0;s0;s0;s0;s0;f0;", 28, 1);
        faultOf("l4,0,0;f0;s0;s0;s0;s0;s0;s0;000", 28, 1);
        faultOf("l3,13,61;x", 1, 2);
        LampLogs x = new LampLogs();
        is("8 before one", x.fault(), 0);
        Due.read(x, "l4,0,61;");
        is("8 latest", x.fault(), 2);
        Due.read(x, SIX);
        is("8 stays behind a light", x.fault(), 2);
    }

    private static void undo9() {
        LampLogs x = six();
        is("9 none", x.undo(), STATE);
        long[] before = new long[6];
        before[0] = shown(x);
        x.watches(1);
        before[1] = shown(x);
        x.pour(9);
        before[2] = shown(x);
        x.fog(2, 1);
        before[3] = shown(x);
        x.eyes(11);
        before[4] = shown(x);
        x.move(3, 8);
        for (int left = 4; left >= 0; left--) {
            is("9 left", x.undo(), left);
            is("9 as it was", shown(x), before[left]);
        }
        is("9 none", x.undo(), STATE);
        is("9 refused", x.watches(25), BAD);
        is("9 no act", x.undo(), STATE);
        x.watches(24);
        x.pour(1);
        is("9 24 at most", x.count(6), 24);
        for (int left = 23; left >= 0; left--) {
            is("9 left", x.undo(), left);
        }
        is("9 the oldest is forgotten", x.count(3), 1);
        is("9 none", x.undo(), STATE);
        x.watches(24);
        x.watches(24);
        x.undo();
        is("9 one of the watches", x.count(3), 48);
        x.pour(60);
        x.pour(1);
        x.fog(0, 4);
        x.eyes(6);
        is("9 acts that change nothing", x.count(6), 24);
        x.undo();
        x.undo();
        x.undo();
        is("9 poured once", x.count(4), 60);
    }

    private static void watches10() {
        LampLogs x = new LampLogs();
        is("10 STATE ahead of BAD", x.watches(0), STATE);
        x = six();
        for (int n : new int[] {0, -1, 25, MIN_VALUE, MAX_VALUE}) {
            is("10 BAD", x.watches(n), BAD);
        }
        for (int k = 1; k <= 5; k++) {
            is("10 differ", x.watches(1), DIFFER[k]);
            is("10 watch", x.count(3), k);
            is("10 oil", x.count(4), OIL[k]);
            is("10 acts", x.count(6), k);
            for (int one = 0; one < 6; one++) {
                is("10 cell", x.ship(one, 0), CELLS[k][one]);
            }
        }
        is("10 several", six().watches(5), DIFFER[5]);
        for (int k = 0; k < 41; k++) {
            x.watches(24);
        }
        is("10 989", x.count(3), 989);
        is("10 oil is out", x.count(4), 0);
        is("10 BAD ahead of FULL", x.watches(25), BAD);
        is("10 FULL", x.watches(11), FULL);
        is("10 not one", x.count(3), 989);
        x.watches(10);
        is("10 999", x.count(3), 999);
        is("10 FULL", x.watches(1), FULL);
        is("10 acts stay", x.count(6), 24);
        LampLogs y = Due.lit("l4,0,0;f0;g3;o2;g0;o1;s1;m1;");
        int[][] cells = {{3, 2}, {3, 1}, {1, 0}, {3, 1}, {0, 0}, {0, 0}};
        for (int k = 0; k < 2; k++) {
            y.watches(1);
            for (int one = 0; one < 6; one++) {
                is("10 ends of the sea", y.ship(one, 0), cells[one][k]);
            }
        }
        LampLogs z = Due.lit("l4,0,1;f5;f4;s0;");
        z.watches(1);
        is("10 no oil below none", z.count(4), 0);
        z = Due.lit("l4,0,9;f5;f4;s0;");
        z.watches(1);
        is("10 two in fog", z.count(4), 7);
        z.watches(1);
        is("10 one in less", z.count(4), 6);
    }

    private static void pour11() {
        LampLogs x = new LampLogs();
        is("11 STATE ahead of BAD", x.pour(0), STATE);
        x = six();
        for (int n : new int[] {0, -1, 61, MAX_VALUE}) {
            is("11 BAD", x.pour(n), BAD);
        }
        is("11 poured", x.pour(1), 26);
        is("11 at most", x.pour(60), 60);
        is("11 oil", x.stand(4), 60);
        is("11 acts", x.count(6), 2);
    }

    private static void fog12() {
        LampLogs x = new LampLogs();
        is("12 no light", x.fog(0, 0), BAD);
        x = six();
        is("12 no fog", x.fog(3, 0), BAD);
        is("12 no fog", x.fog(-1, 0), BAD);
        is("12 below", x.fog(0, -1), BAD);
        is("12 above", x.fog(0, 10), BAD);
        is("12 what it was", x.fog(1, 9), 0);
        is("12 what it was", x.fog(1, 0), 9);
        is("12 what it was", x.fog(0, 7), 4);
        is("12 it is", x.stand(6), 7);
        is("12 keeper", x.stand(0), 32);
        is("12 lamp", x.stand(1), 57);
        is("12 acts", x.count(6), 3);
    }

    private static void eyes13() {
        LampLogs x = new LampLogs();
        is("13 STATE ahead of BAD", x.eyes(13), STATE);
        x = six();
        is("13 below", x.eyes(-1), BAD);
        is("13 above", x.eyes(13), BAD);
        is("13 what they were", x.eyes(12), 6);
        is("13 keeper", x.stand(0), 59);
        is("13 what they were", x.eyes(0), 12);
        is("13 none but ashore", x.stand(0), 32);
        is("13 eyes", x.stand(3), 0);
        is("13 acts", x.count(6), 2);
    }

    private static void move14() {
        LampLogs x = new LampLogs();
        is("14 no light", x.move(0, 0), BAD);
        x = six();
        is("14 no ship", x.move(6, 0), BAD);
        is("14 no ship", x.move(-1, 0), BAD);
        is("14 no cell", x.move(0, 10), BAD);
        is("14 no cell", x.move(0, -1), BAD);
        is("14 it is there", x.move(0, 3), STATE);
        is("14 no act", x.count(6), 0);
        is("14 where it was", x.move(0, 9), 3);
        is("14 where it is", x.ship(0, 0), 9);
        is("14 ashore", x.move(1, 0), 7);
        is("14 seen there", x.ship(1, 1), 3);
        is("14 acts", x.count(6), 2);
    }

    private static void ship15() {
        LampLogs x = six();
        for (int one = 0; one < 6; one++) {
            is("15 cell", x.ship(one, 0), CELLS[0][one]);
            is("15 logged", x.ship(one, 1), LOGGED[0][one]);
            is("15 where it goes", x.ship(one, 2), CELLS[1][one]);
        }
        x.watches(1);
        for (int one = 0; one < 6; one++) {
            is("15 logged", x.ship(one, 1), LOGGED[1][one]);
            is("15 where it goes", x.ship(one, 2), CELLS[2][one]);
        }
        for (int v : new int[] {-1, 6, MAX_VALUE}) {
            is("15 no ship", x.ship(v, 0), BAD);
        }
        is("15 what", x.ship(0, 3), BAD);
        is("15 what", x.ship(0, -1), BAD);
        LampLogs y = Due.lit("l12,12,60;f0;s10;s11;g10;g11;o2;o3;");
        int[] seen = {3, 1, 3, 1, 3, 0};
        for (int one = 0; one < 6; one++) {
            is("15 far", y.ship(one, 1), seen[one]);
        }
        LampLogs z = Due.lit("l12,0,0;f0;s0;s1;g0;o0;b0;m0;");
        int[] dark = {3, 0, 1, 1, 3, 3};
        for (int one = 0; one < 6; one++) {
            is("15 no oil, no eyes", z.ship(one, 1), dark[one]);
        }
        z.fog(0, 9);
        z.pour(9);
        int[] thick = {3, 0, 2, 2, 3, 3};
        for (int one = 0; one < 6; one++) {
            is("15 fog", z.ship(one, 1), thick[one]);
        }
    }

    private static void stand16() {
        LampLogs x = new LampLogs();
        is("16 STATE ahead of BAD", x.stand(7), STATE);
        x = six();
        for (int k = 0; k <= 5; k++) {
            int[] due = {KEEPER[k], LAMP[k], DIFFER[k], 6, OIL[k], 10, THICK[k]};
            for (int what = 0; what < 7; what++) {
                is("16 stand " + what + " behind " + k, x.stand(what), due[what]);
            }
            x.watches(1);
        }
        is("16 what", x.stand(7), BAD);
        is("16 what", x.stand(-1), BAD);
    }

    private static void thick17() {
        LampLogs x = new LampLogs();
        is("17 STATE ahead of BAD", x.thick(61), STATE);
        x = six();
        for (int n = 0; n < 6; n++) {
            is("17 thick", x.thick(n), THICK[n]);
        }
        is("17 far", x.thick(60), 4);
        is("17 too far", x.thick(61), BAD);
        is("17 behind", x.thick(-1), BAD);
        x.watches(2);
        is("17 from now", x.thick(0), 6);
        is("17 from now", x.thick(60), 6);
    }

    private static void ahead18() {
        LampLogs x = six();
        long before = shown(x);
        for (int n = 0; n <= 5; n++) {
            for (int one = 0; one < 6; one++) {
                is("18 cell", x.ahead(one, n, 0), CELLS[n][one]);
                is("18 logged", x.ahead(one, n, 1), LOGGED[n][one]);
            }
        }
        is("18 nothing changes", shown(x), before);
        is("18 far", x.ahead(4, 60, 0), 2);
        is("18 too far", x.ahead(4, 61, 0), BAD);
        is("18 behind", x.ahead(4, -1, 0), BAD);
        is("18 no ship", x.ahead(6, 0, 0), BAD);
        is("18 no ship", x.ahead(-1, 0, 0), BAD);
        is("18 what", x.ahead(0, 0, 2), BAD);
        is("18 what", x.ahead(0, 0, -1), BAD);
        x.watches(1);
        is("18 from now", x.ahead(2, 2, 1), 2);
    }

    private static void written19() {
        LampLogs x = new LampLogs();
        is("19 STATE ahead of BAD", x.written(61, 9), STATE);
        x = six();
        long before = shown(x);
        for (int n = 0; n <= 5; n++) {
            is("19 keeper", x.written(n, 0), KEEPER[n]);
            is("19 lamp", x.written(n, 1), LAMP[n]);
            is("19 differ", x.written(n, 2), DIFFER[n]);
            is("19 oil", x.written(n, 3), OIL[n]);
        }
        is("19 nothing changes", shown(x), before);
        is("19 oil far", x.written(60, 3), 0);
        is("19 too far", x.written(61, 0), BAD);
        is("19 behind", x.written(-1, 0), BAD);
        is("19 what", x.written(0, 4), BAD);
        is("19 what", x.written(0, -1), BAD);
    }

    private static void when20() {
        LampLogs x = six();
        int[] ashore = {3, 13, 5, 0, NONE, 0};
        for (int one = 0; one < 6; one++) {
            is("20 ashore", x.when(one, 0), ashore[one]);
        }
        is("20 differ", x.when(0, 1), 0);
        is("20 differ", x.when(2, 1), 3);
        is("20 differ", x.when(3, 1), 5);
        is("20 differ", x.when(4, 1), 2);
        is("20 never", x.when(5, 1), NONE);
        is("20 how", x.when(0, 2), BAD);
        is("20 how", x.when(0, -1), BAD);
        is("20 no ship", x.when(6, 0), BAD);
        x.watches(2);
        is("20 from now", x.when(0, 0), 1);
        LampLogs y = Due.lit("l4,0,60;f0;s0;g3;");
        is("20 the last watch of oil", y.when(1, 1), 0);
        y.move(1, 2);
        y.eyes(12);
        is("20 behind 60", y.when(1, 1), 60);
        y.pour(1);
        is("20 still behind 60", y.when(1, 1), 60);
        y.eyes(1);
        is("20 never ashore", y.when(1, 0), NONE);
        LampLogs z = Due.lit("l4,0,60;f5;f0;s0;");
        is("20 ashore never differs", z.when(0, 1), NONE);
    }

    private static void quarrel21() {
        LampLogs x = new LampLogs();
        is("21 STATE ahead of BAD", x.quarrel(2), STATE);
        x = six();
        is("21 now", x.quarrel(0), 0);
        is("21 on whom", x.quarrel(1), 0);
        x.watches(3);
        is("21 now", x.quarrel(0), 0);
        is("21 on whom", x.quarrel(1), 2);
        x.watches(1);
        is("21 soon", x.quarrel(0), 1);
        is("21 on the gull", x.quarrel(1), 3);
        is("21 what", x.quarrel(2), BAD);
        is("21 what", x.quarrel(-1), BAD);
        LampLogs y = Due.lit("l4,0,60;f0;s0;b0;");
        is("21 never", y.quarrel(0), NONE);
        is("21 on none", y.quarrel(1), NONE);
        LampLogs z = Due.lit("l4,12,60;f0;s0;g2;");
        is("21 behind 60", z.quarrel(0), 60);
        is("21 whom", z.quarrel(1), 1);
    }

    private static void pours22() {
        LampLogs x = six();
        is("22 none needed", x.pours(0, 0), 0);
        is("22 now", x.pours(1, 0), 25);
        is("22 not by any", x.pours(2, 0), NONE);
        is("22 behind one", x.pours(2, 1), 6);
        is("22 ashore", x.pours(0, 30), 0);
        is("22 a boat too far", x.pours(4, 1), NONE);
        is("22 too far", x.pours(0, 31), BAD);
        is("22 behind", x.pours(0, -1), BAD);
        is("22 no ship", x.pours(6, 0), BAD);
        LampLogs y = Due.lit("l4,0,0;f9;g0;");
        is("22 oil that burns", y.pours(0, 0), 1);
        is("22 oil that burns", y.pours(0, 28), 57);
        is("22 out by then", y.pours(0, 30), NONE);
        LampLogs z = Due.lit("l12,0,55;f0;g9;");
        is("22 60 at most", z.pours(0, 0), 0);
        z.move(0, 10);
        is("22 60 at most", z.pours(0, 0), 5);
        is("22 59 then", z.pours(0, 1), NONE);
        is("22 all of it", Due.lit("l12,0,0;f0;g10;").pours(0, 0), 60);
    }

    private static void lift23() {
        LampLogs x = new LampLogs();
        is("23 STATE ahead of BAD", x.lift(0, 0), STATE);
        x = six();
        long before = shown(x);
        is("23 the first of several", x.lift(1, 0), 0);
        is("23 never", x.lift(1, 1), 0);
        is("23 which", x.lift(2, 0), 2);
        is("23 how often", x.lift(2, 1), 0);
        is("23 nothing changes", shown(x), before);
        is("23 none", x.lift(0, 0), BAD);
        is("23 too far", x.lift(31, 0), BAD);
        is("23 what", x.lift(1, 2), BAD);
        is("23 what", x.lift(1, -1), BAD);
        LampLogs y = Due.lit("l4,0,0;f0;o0;");
        is("23 not what is now", y.lift(3, 1), 1);
        LampLogs z = Due.lit("l4,2,9;f4;s3;s3;s3;");
        is("23 ship by ship", z.lift(3, 1), 0);
        z.eyes(0);
        is("23 ship by ship, watch by watch", z.lift(3, 1), 6);
        LampLogs w = Due.lit("l6,2,9;f0;f4;g0;");
        is("23 the second", w.lift(1, 0), 1);
        is("23 the second", w.lift(1, 1), 0);
    }

    private static void sent24() {
        LampLogs x = new LampLogs();
        is("24 STATE ahead of BAD", x.sent(0, 0), STATE);
        x = six();
        int[] away = {0, 0, 17, 21, 21, 29};
        for (int n = 1; n <= 5; n++) {
            is("24 which", x.sent(n, 1), away[n]);
            is("24 how many", x.sent(n, 0), Integer.bitCount(away[n]));
        }
        is("24 none", x.sent(0, 0), BAD);
        is("24 too far", x.sent(31, 0), BAD);
        is("24 what", x.sent(1, 2), BAD);
        is("24 what", x.sent(1, -1), BAD);
    }

    private static void shares(LampLogs x, int n, int... due) {
        for (int f = 0; f < due.length; f++) {
            is("25 share of " + n, x.share(f, n), due[f]);
        }
    }

    private static void share25() {
        LampLogs x = new LampLogs();
        is("25 no light", x.share(0, 1), BAD);
        x = six();
        shares(x, 0, 0, 0, 0);
        shares(x, 9, 4, 0, 5);
        shares(x, 10, 4, 0, 6);
        shares(x, 999, 400, 0, 599);
        is("25 no fog", x.share(3, 1), BAD);
        is("25 no fog", x.share(-1, 1), BAD);
        is("25 below", x.share(0, -1), BAD);
        is("25 above", x.share(0, 1000), BAD);
        shares(Due.lit("l4,0,0;f0;f1;f1;f0;f1;s0;"), 5, 0, 2, 2, 0, 1);
        shares(Due.lit("l4,0,0;f1;f9;s0;"), 1, 1, 0);
        shares(Due.lit("l4,0,0;f1;f0;s0;"), 7, 7, 0);
        shares(Due.lit("l4,0,0;f0;f0;s0;"), 7, 0, 0);
    }

    private static void byTurns26() {
        LampLogs x = new LampLogs();
        is("26 STATE ahead of BAD", x.byTurns(5, 0), STATE);
        x = six();
        long before = shown(x);
        is("26 no turns", x.byTurns(0, 2), 2);
        is("26 no turns", x.byTurns(0, 3), 1);
        is("26 nothing changes", shown(x), before);
        is("26 below", x.byTurns(-1, 1), BAD);
        is("26 above", x.byTurns(5, 1), BAD);
        is("26 no watch", x.byTurns(0, 0), BAD);
        is("26 too far", x.byTurns(0, 21), BAD);
        LampLogs y = Due.lit("l4,3,0;f0;g2;");
        is("26 below 0", y.byTurns(0, 1), -1);
        is("26 the one", y.byTurns(1, 1), 0);
        is("26 the other does nothing", y.byTurns(2, 1), 0);
        LampLogs z = Due.lit("l12,0,1;f0;s6;");
        int[] due = {0, 0, 0, 1, 1};
        for (int n = 0; n <= 4; n++) {
            is("26 the one twice", z.byTurns(n, 1), due[n]);
        }
        is("26 ten are too few", Due.lit("l12,0,0;f0;s6;").byTurns(3, 1), 0);
        is("26 five are too few", Due.lit("l12,0,5;f0;s6;").byTurns(2, 1), 0);
        is("26 eyes get no better", Due.lit("l6,1,0;f0;g1;").byTurns(2, 1), 1);
        is("26 eyes get no better than none", Due.lit("l6,0,0;f0;s2;").byTurns(2, 1), 1);
    }

    private static LampLogs logged(int... log) {
        LampLogs x = six();
        x.row(2, 0, log.length + 2);
        x.set(2, 0, 9);
        for (int i = 0; i < log.length; i++) {
            x.set(2, i + 1, log[i]);
        }
        return x;
    }

    private static void who27() {
        LampLogs x = logged(3, 2, 3);
        long before = shown(x);
        is("27 kinds", x.who(0, 0, 2, 1, 3), 6);
        is("27 cells", x.who(0, 1, 2, 1, 3), 56);
        is("27 kinds by one", x.who(0, 0, 2, 1, 1), 30);
        is("27 cells by one", x.who(0, 1, 2, 1, 1), 255);
        is("27 a boat", logged(0).who(0, 0, 2, 1, 1), 32);
        is("27 no kind", x.who(0, 0, 2, 0, 1), 0);
        is("27 status", x.status(), 0);
        is("27 nothing changes", shown(x), before);
        is("27 no ship", x.who(6, 0, 2, 1, 1), BAD);
        is("27 no ship", x.who(-1, 0, 2, 1, 1), BAD);
        is("27 which", x.who(0, 2, 2, 1, 1), BAD);
        is("27 which", x.who(0, -1, 2, 1, 1), BAD);
        likewise("27", x, (row, i, n) -> x.who(0, 0, row, i, n));
    }

    private interface LogCall {
        int of(int row, int i, int n);
    }

    /** What the three calls with a log refuse or find, row 2 having 5 ITEMS. */
    private static void likewise(String promise, LampLogs x, LogCall call) {
        is(promise + " no row", call.of(8, 0, 1), BAD);
        is(promise + " no row", call.of(-1, 0, 1), BAD);
        is(promise + " no watch", call.of(2, 0, 0), BAD);
        is(promise + " 13", call.of(2, 0, 13), BAD);
        is(promise + " BAD ahead of NULL", call.of(3, 0, -1), BAD);
        is(promise + " NULL", call.of(3, -1, 1), Due.NULL);
        is(promise + " status", x.status(), 1);
        for (int i : WRONG) {
            is(promise + " PLACE", call.of(2, i, 1), Due.PLACE);
        }
        is(promise + " status", x.status(), 2);
        is(promise + " beyond the end", call.of(2, 3, 3), Due.PLACE);
        is(promise + " 12 of 5", call.of(2, 0, 12), Due.PLACE);
    }

    private static void fogs28() {
        LampLogs x = logged(3, 2, 3);
        long before = shown(x);
        is("28 any", x.fogs(0, 0, 2, 1, 3), 1023);
        is("28 thin", x.fogs(1, 0, 2, 1, 3), 31);
        is("28 thick", x.fogs(2, 0, 2, 1, 3), 960);
        is("28 none", x.fogs(0, 0, 2, 0, 1), 0);
        is("28 nothing changes", shown(x), before);
        is("28 no fog", x.fogs(3, 0, 2, 1, 1), BAD);
        is("28 no fog", x.fogs(-1, 0, 2, 1, 1), BAD);
        is("28 no ship", x.fogs(0, 6, 2, 1, 1), BAD);
        is("28 no ship", x.fogs(0, -1, 2, 1, 1), BAD);
        likewise("28", x, (row, i, n) -> x.fogs(0, 0, row, i, n));
    }

    private static void sights29() {
        LampLogs x = logged(3, 2, 3);
        long before = shown(x);
        is("29 eyes", x.sights(0, 0, 2, 1, 3), 124);
        is("29 oils", x.sights(0, 1, 2, 1, 3), 58);
        is("29 least", x.sights(0, 2, 2, 1, 3), 3);
        is("29 the best eyes", x.sights(0, 0, 2, 1, 1), 8188);
        is("29 the worst eyes", logged(2).sights(0, 0, 2, 1, 1), 3);
        is("29 two oils", logged(1).sights(0, 1, 2, 1, 1), 2);
        is("29 no oil", logged(1).sights(0, 2, 2, 1, 1), 0);
        is("29 no eyes", x.sights(0, 0, 2, 0, 1), 0);
        is("29 no oil", x.sights(0, 1, 2, 0, 1), 0);
        is("29 NONE", x.sights(0, 2, 2, 0, 1), NONE);
        is("29 nothing changes", shown(x), before);
        is("29 no ship", x.sights(6, 0, 2, 1, 1), BAD);
        is("29 no ship", x.sights(-1, 0, 2, 1, 1), BAD);
        is("29 which", x.sights(0, 3, 2, 1, 1), BAD);
        is("29 which", x.sights(0, -1, 2, 1, 1), BAD);
        likewise("29", x, (row, i, n) -> x.sights(0, 0, row, i, n));
    }

    private static void fairly(LampLogs x, int n, int p, long above, long below) {
        is("30 above", x.fair(n, p, 0), above);
        is("30 below", x.fair(n, p, 1), below);
    }

    private static void fair30() {
        LampLogs x = new LampLogs();
        is("30 STATE ahead of BAD", x.fair(-1, 11, 2), STATE);
        x = six();
        long before = shown(x);
        fairly(x, 0, 7, 7, 10);
        fairly(x, 1, 3, 1, 1);
        fairly(x, 2, 0, 0, 1);
        fairly(x, 2, 3, 3, 10);
        fairly(x, 2, 5, 1, 2);
        fairly(x, 2, 10, 1, 1);
        is("30 nothing changes", shown(x), before);
        is("30 behind", x.fair(-1, 0, 0), BAD);
        is("30 too far", x.fair(61, 0, 0), BAD);
        is("30 p", x.fair(0, -1, 0), BAD);
        is("30 p", x.fair(0, 11, 0), BAD);
        is("30 what", x.fair(0, 0, 2), BAD);
        is("30 what", x.fair(0, 0, -1), BAD);
        LampLogs y = Due.lit("l12,6,21;f5;f6;s7;");
        fairly(y, 1, 3, 79, 100);
        fairly(y, 1, 5, 3, 4);
        fairly(y, 1, 0, 1, 1);
        fairly(y, 1, 10, 1, 1);
    }

    private static void drawn31() {
        LampLogs x = new LampLogs();
        is("31 STATE ahead of BAD", x.drawn(61, 0, 2), STATE);
        x = Due.lit("l6,3,2;f1;f2;s1;g0;");
        int[] differed = {0, 0, 0, 0, 2, 3, 4, 4, 4};
        int[] oil = {2, 1, 0, 8, 7, 6, 5, 4, 3};
        for (int n = 0; n <= 8; n++) {
            is("31 differed by " + n, x.drawn(n, 1, 0), differed[n]);
            is("31 oil by " + n, x.drawn(n, 1, 1), oil[n]);
        }
        is("31 nothing changes", x.ship(1, 0), 0);
        is("31 no act", x.count(6), 0);
        is("31 the last seed", x.drawn(0, 999999, 1), 2);
        is("31 behind", x.drawn(-1, 1, 0), BAD);
        is("31 too far", x.drawn(61, 1, 0), BAD);
        is("31 seed", x.drawn(1, 0, 0), BAD);
        is("31 seed", x.drawn(1, 1000000, 0), BAD);
        is("31 what", x.drawn(1, 1, 2), BAD);
        is("31 what", x.drawn(1, 1, -1), BAD);
    }

    private static void image32() {
        LampLogs x = new LampLogs();
        is("32 BAD ahead of STATE", x.image(2), BAD);
        is("32 no light", x.image(1), STATE);
        x = six();
        is("32 no image", x.image(-1), BAD);
        x.watches(2);
        is("32 kept", x.image(0), 1);
        is("32 acts stay", x.count(6), 2);
        x.watches(1);
        is("32 kept anew", x.image(0), 1);
        x.watches(1);
        x.restore(0);
        is("32 the newer one", x.count(3), 3);
    }

    private static void restore33() {
        LampLogs x = new LampLogs();
        is("33 BAD ahead of STATE", x.restore(2), BAD);
        is("33 no image", x.restore(-1), BAD);
        is("33 none was kept", x.restore(0), STATE);
        x = six();
        long first = shown(x);
        x.image(0);
        x.watches(3);
        x.eyes(1);
        x.fog(1, 9);
        x.image(1);
        long before = shown(x);
        is("33 restored", x.restore(0), 1);
        is("33 as it was", shown(x), first);
        is("33 no act", x.undo(), STATE);
        Due.read(x, "l4,0,0;f0;s0;");
        is("33 the other", x.restore(1), 1);
        is("33 as it was but for the acts", x.stand(3), 1);
        is("33 kinds", x.kind(4), 5);
        x.watches(5);
        is("33 again", x.restore(1), 1);
        is("33 watch", x.count(3), 3);
        Due.holds("33 acts are told apart", before != shown(x));
        LampLogs y = six();
        y.image(1);
        is("33 none was kept there", y.restore(0), STATE);
    }

    private static void kind34() {
        LampLogs x = new LampLogs();
        is("34 no light", x.kind(0), BAD);
        x = six();
        int[] due = {1, 2, 3, 4, 5, 1};
        for (int one = 0; one < 6; one++) {
            is("34 kind", x.kind(one), due[one]);
        }
        is("34 no ship", x.kind(6), BAD);
        is("34 no ship", x.kind(-1), BAD);
    }

    private static void as35() {
        LampLogs x = six();
        int[] kinds = {0b000011, 0b000111, 0b001011, 0b010001, 0b110001, 0b000011};
        for (int one = 0; one < 6; one++) {
            for (int kind = 0; kind < 6; kind++) {
                boolean isOne = (kinds[one] >> kind & 1) != 0;
                is("35 " + one + " as " + kind, x.as(one, kind), isOne ? one : Due.KIND);
                is("35 status", x.status(), isOne ? 0 : 3);
            }
        }
        is("35 no ship", x.as(6, 0), BAD);
        is("35 no ship", x.as(-1, 0), BAD);
        is("35 no kind", x.as(0, 6), BAD);
        is("35 no kind", x.as(0, -1), BAD);
    }

    private static void asks(LampLogs x, int one, int what, int due, int... trace) {
        is("36 ask " + what + " of " + one, x.ask(one, what), due);
        for (int i = 0; i < trace.length; i++) {
            is("37 trace " + what + " of " + one, x.trace(i), trace[i]);
        }
        is("37 no more", x.trace(trace.length), NONE);
    }

    private static void ask36() {
        LampLogs x = six();
        asks(x, 0, 0, 5, 11, 10, 21, 20);
        asks(x, 0, 1, 2, 21, 20);
        asks(x, 1, 0, -9, 12, 11, 10, 24, 21, 20);
        asks(x, 1, 1, 2, 24, 21, 20);
        asks(x, 2, 0, -989, 11, 10, 22, 21, 20);
        asks(x, 2, 1, -998, 22, 21, 20);
        asks(x, 3, 0, -100, 13, 10);
        asks(x, 3, 1, 103, 23, 20, 13, 10);
        asks(x, 4, 0, -196, 14, 13, 10);
        asks(x, 4, 1, 200, 23, 20, 14, 13, 10);
        asks(x, 5, 1, 8, 21, 20);
        is("36 no ship", x.ask(6, 0), BAD);
        is("36 no ship", x.ask(-1, 0), BAD);
        is("36 what", x.ask(0, 2), BAD);
        is("36 what", x.ask(0, -1), BAD);
        is("36 refused, the trace stays", x.trace(1), 20);
        x.watches(1);
        asks(x, 0, 0, 5, 11, 10, 21, 20);
        asks(x, 1, 1, 8, 24, 21, 20);
    }

    private static void trace37() {
        LampLogs x = six();
        is("37 empty", x.trace(0), NONE);
        x.ask(0, 1);
        for (int i : WRONG) {
            is("37 no such", x.trace(i), NONE);
        }
        is("37 no such", x.trace(16), NONE);
        is("37 stays", x.trace(0), 21);
    }

    private static void count38() {
        LampLogs x = six();
        x.row(1, 0, 1);
        x.row(5, 0, 0);
        x.watches(3);
        x.feed('a');
        int[] due = {2, 6, 3, 3, 21, 2, 3, 1};
        for (int what = 0; what < 8; what++) {
            is("38 count " + what, x.count(what), due[what]);
        }
        is("38 what", x.count(8), BAD);
        is("38 what", x.count(-1), BAD);
    }

    private static void status39() {
        LampLogs x = six();
        is("39 none", x.status(), 0);
        x.row(0, 0, -1);
        is("39 SIZE", x.status(), 4);
        x.row(8, 0, -1);
        is("39 BAD leaves it", x.status(), 4);
        x.watches(1);
        x.undo();
        is("39 calls without a row leave it", x.status(), 4);
        x.row(0, 0, 1);
        is("39 none", x.status(), 0);
        x.set(1, 0, 0);
        is("39 NULL", x.status(), 1);
        x.set(0, 0, 0);
        is("39 none", x.status(), 0);
        x.set(0, 1, 0);
        is("39 PLACE", x.status(), 2);
        x.row(1, 1, 1);
        x.copy(0, 0, 1, 0, 1);
        is("39 STORE", x.status(), 5);
        x.copy(0, 0, 0, 0, 1);
        is("39 none", x.status(), 0);
        x.as(0, 2);
        is("39 KIND", x.status(), 3);
        x.as(0, 6);
        is("39 BAD leaves it", x.status(), 3);
        x.as(0, 0);
        is("39 none", x.status(), 0);
        x.drop(7);
        is("39 NULL", x.status(), 1);
        x.drop(1);
        is("39 none", x.status(), 0);
        x.drop(7);
        x.sights(0, 2, 0, 0, 1);
        is("39 NONE is no finding", x.status(), 0);
        x.drop(7);
        x.fogs(0, 0, 0, 0, 1);
        is("39 none", x.status(), 0);
        x.drop(7);
        x.who(9, 0, 0, 0, 1);
        is("39 BAD leaves it", x.status(), 1);
        is("39 it is asked again", x.status(), 1);
    }

    public static void main(String[] args) {
        newObject1();
        row2();
        set3();
        copy4();
        drop5();
        feed6();
        light7();
        faults8();
        undo9();
        watches10();
        pour11();
        fog12();
        eyes13();
        move14();
        ship15();
        stand16();
        thick17();
        ahead18();
        written19();
        when20();
        quarrel21();
        pours22();
        lift23();
        sent24();
        share25();
        byTurns26();
        who27();
        fogs28();
        sights29();
        fair30();
        drawn31();
        image32();
        restore33();
        kind34();
        as35();
        ask36();
        trace37();
        count38();
        status39();
        Due.end("PromiseTest");
    }
}
