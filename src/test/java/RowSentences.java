import static java.lang.Integer.MAX_VALUE;
import static java.lang.Integer.MIN_VALUE;

/** What the document says of ROWS, sentence by sentence: at each bound and just beyond it. */
final class RowSentences {
    private static final int BAD = Due.BAD, NULL = Due.NULL, PLACE = Due.PLACE, SIZE = Due.SIZE, STORE = Due.STORE;

    private RowSentences() {
    }

    static void play() {
        rowsAtFirst();
        rowMakesARow();
        rowRefuses();
        setCutsToTheLane();
        setRefuses();
        copyMovesItems();
        copyTakesItemsAsTheyWere();
        copyRefuses();
        copyFindsPlaces();
        dropMakesMissing();
        dropRefuses();
    }

    private static Run rowOf(int lane, int... items) {
        Run x = new Run();
        x.play("row", 0, lane, items.length);
        for (int i = 0; i < items.length; i++) {
            x.play("set", 0, i, items[i]);
        }
        return x;
    }

    private static void holds(Run x, int row, String due) {
        String there = x.row(row);
        Due.holds("ROW " + row + " is " + there + ", due is " + due, there.equals(due));
    }

    private static void rowsAtFirst() {
        Doc.term("ROWS 0 .. 7 are missing (at first), or have a LANE (0 bytes, 1 shorts, 2 ints) and 0 to 40 ITEMS,"
            + " 0 at first.");
        Run x = new Run();
        for (int r = 0; r <= 7; r++) {
            x.still(NULL, "drop", r);
            holds(x, r, "missing");
        }
        x.still(BAD, "drop", -1);
        x.still(BAD, "drop", 8);
        for (int lane = 0; lane <= 2; lane++) {
            Run y = new Run();
            y.is(40, "row", 7, lane, 40);
            y.is(0, "row", 0, lane, 0);
            y.is(1, "row", 1, lane, 1);
            holds(y, 7, lane + " " + "0".repeat(40));
            holds(y, 0, lane + " ");
            holds(y, 1, lane + " 0");
            y.still(BAD, "row", 7, lane, 41);
            y.still(SIZE, "row", 7, lane, -1);
        }
    }

    private static void rowMakesARow() {
        Doc.promise(2, "A ROW of a LANE with n ITEMS, in place of what is there: n.");
        Run x = rowOf(0, 3, 2, 1);
        holds(x, 0, "0 321");
        x.is(3, "row", 0, 0, 3);
        holds(x, 0, "0 000");
        x.play("set", 0, 2, 1);
        x.is(2, "row", 0, 1, 2);
        holds(x, 0, "1 00");
        x.still(PLACE, "set", 0, 2, 1);
        x.is(40, "row", 0, 2, 40);
        holds(x, 0, "2 " + "0".repeat(40));
        x.is(0, "row", 0, 0, 0);
        holds(x, 0, "0 ");
        x.is(3, "row", 0, 0, 3);
        holds(x, 0, "0 000");
        for (int r = 1; r <= 7; r++) {
            holds(x, r, "missing");
            x.is(r, "row", r, r % 3, r);
        }
        for (int r = 1; r <= 7; r++) {
            holds(x, r, r % 3 + " " + "0".repeat(r));
        }
    }

    private static void rowRefuses() {
        Doc.promise(2, "BAD: ROW, LANE, n above 40; SIZE.");
        Run x = rowOf(1, 2, 1);
        for (int wrong : new int[] {-1, 8, MIN_VALUE, MAX_VALUE}) {
            x.still(BAD, "row", wrong, 0, 1);
            x.still(BAD, "row", wrong, 0, -1);
        }
        for (int wrong : new int[] {-1, 3, MIN_VALUE, MAX_VALUE}) {
            x.still(BAD, "row", 0, wrong, 1);
            x.still(BAD, "row", 0, wrong, -1);
        }
        x.still(BAD, "row", 0, 0, 41);
        x.still(BAD, "row", 0, 0, MAX_VALUE);
        x.still(SIZE, "row", 0, 0, -1);
        x.still(SIZE, "row", 0, 0, MIN_VALUE);
        x.still(SIZE, "row", 5, 0, -1);
        x.is(0, "row", 0, 0, 0);
        x.is(40, "row", 7, 2, 40);
    }

    private static void cuts(int lane, int v, int due) {
        rowOf(lane, 0, 0).is(due, "set", 0, 1, v);
    }

    private static void setCutsToTheLane() {
        Doc.promise(3, "ITEM i becomes v, its lowest bits, as many as the LANE has: what it is then.");
        int[][] bytes = {{127, 127}, {128, -128}, {255, -1}, {256, 0}, {-128, -128}, {-129, 127}, {-256, 0},
            {32768, 0}, {MAX_VALUE, -1}, {MIN_VALUE, 0}};
        int[][] shorts = {{128, 128}, {256, 256}, {32767, 32767}, {32768, -32768}, {65535, -1}, {65536, 0},
            {-32768, -32768}, {-32769, 32767}, {MAX_VALUE, -1}, {MIN_VALUE, 0}};
        int[][] ints = {{128, 128}, {32768, 32768}, {65536, 65536}, {MAX_VALUE, MAX_VALUE}, {MIN_VALUE, MIN_VALUE},
            {-1, -1}};
        int[][][] lanes = {bytes, shorts, ints};
        for (int lane = 0; lane <= 2; lane++) {
            for (int[] pair : lanes[lane]) {
                cuts(lane, pair[0], pair[1]);
            }
        }
        holds(rowOf(0, 256 + 1, 512 + 2, -256 + 3, 4), 0, "0 123?");
        holds(rowOf(1, 65536 + 1, 256 + 2, -65536 + 3, 0), 0, "1 1?30");
        holds(rowOf(2, 65536 + 1, 256 + 2, 3, -1), 0, "2 ??3?");
    }

    private static void setRefuses() {
        Doc.promise(3, "BAD: ROW; NULL; PLACE.");
        Run x = rowOf(2, 1, 2, 3);
        for (int wrong : new int[] {-1, 8, MIN_VALUE, MAX_VALUE}) {
            x.still(BAD, "set", wrong, 0, 1);
            x.still(BAD, "set", wrong, -1, 1);
        }
        for (int wrong : new int[] {-1, 3, MIN_VALUE, MAX_VALUE}) {
            x.still(PLACE, "set", 0, wrong, 1);
            x.still(NULL, "set", 7, wrong, 1);
        }
        x.still(NULL, "set", 1, 0, 1);
        x.is(7, "set", 0, 0, 7);
        x.is(7, "set", 0, 2, 7);
        holds(x, 0, "2 ?2?");
        x.play("row", 0, 0, 0);
        x.still(PLACE, "set", 0, 0, 1);
        x.play("row", 0, 0, 40);
        x.is(1, "set", 0, 39, 1);
        x.still(PLACE, "set", 0, 40, 1);
    }

    private static void copyMovesItems() {
        Doc.promise(4, "n ITEMS of a from i on come to b from j on,");
        Run x = rowOf(0, 1, 2, 3);
        x.play("row", 7, 0, 4);
        x.is(1, "copy", 0, 2, 7, 3, 1);
        holds(x, 7, "0 0003");
        x.is(3, "copy", 0, 0, 7, 0, 3);
        holds(x, 7, "0 1233");
        x.is(2, "copy", 0, 1, 7, 2, 2);
        holds(x, 7, "0 1223");
        holds(x, 0, "0 123");
        x.is(0, "copy", 0, 0, 7, 0, 0);
        x.is(0, "copy", 0, 3, 7, 4, 0);
        holds(x, 7, "0 1223");
        x.play("row", 1, 0, 0);
        x.is(0, "copy", 1, 0, 0, 3, 0);
        x.is(0, "copy", 1, 0, 1, 0, 0);
        Run y = new Run();
        y.play("row", 0, 1, 40);
        y.play("row", 1, 1, 40);
        y.play("set", 0, 0, 1);
        y.play("set", 0, 39, 2);
        y.is(40, "copy", 0, 0, 1, 0, 40);
        holds(y, 1, "1 1" + "0".repeat(38) + "2");
    }

    private static void copyTakesItemsAsTheyWere() {
        Doc.promise(4, "as they were ahead: n.");
        Run up = rowOf(0, 1, 2, 3, 0);
        up.is(3, "copy", 0, 0, 0, 1, 3);
        holds(up, 0, "0 1123");
        Run down = rowOf(2, 0, 1, 2, 3);
        down.is(3, "copy", 0, 1, 0, 0, 3);
        holds(down, 0, "2 1233");
        Run onItself = rowOf(1, 1, 2, 3);
        onItself.is(3, "copy", 0, 0, 0, 0, 3);
        holds(onItself, 0, "1 123");
    }

    private static void copyRefuses() {
        Doc.promise(4, "BAD: ROWS; NULL; STORE;");
        Run x = rowOf(0, 1, 2, 3);
        x.play("row", 1, 1, 3);
        x.play("row", 2, 0, 3);
        x.play("row", 3, 2, 3);
        for (int wrong : new int[] {-1, 8, MIN_VALUE, MAX_VALUE}) {
            x.still(BAD, "copy", wrong, 0, 0, 0, 1);
            x.still(BAD, "copy", 0, 0, wrong, 0, 1);
            x.still(BAD, "copy", wrong, 0, 7, -1, 1);
            x.still(BAD, "copy", 7, -1, wrong, 0, 1);
        }
        x.still(NULL, "copy", 7, 0, 0, 0, 1);
        x.still(NULL, "copy", 0, 0, 7, 0, 1);
        x.still(NULL, "copy", 7, 0, 7, 0, 0);
        x.still(NULL, "copy", 0, -1, 7, 0, -1);
        x.still(NULL, "copy", 7, -1, 0, 9, -1);
        x.still(STORE, "copy", 0, 0, 1, 0, 1);
        x.still(STORE, "copy", 1, 0, 0, 0, 1);
        x.still(STORE, "copy", 1, 0, 3, 0, 1);
        x.still(STORE, "copy", 0, 0, 3, 0, 0);
        x.still(STORE, "copy", 0, -1, 1, 0, 1);
        x.still(STORE, "copy", 0, 0, 1, 4, 1);
        x.still(STORE, "copy", 0, 0, 1, 0, -1);
        x.is(3, "copy", 0, 0, 2, 0, 3);
    }

    private static void copyFindsPlaces() {
        Doc.promise(4, "PLACE (i, j, n below 0, or beyond an end).");
        Run x = rowOf(0, 1, 2, 3);
        x.play("row", 1, 0, 2);
        for (int wrong : new int[] {-1, MIN_VALUE, MAX_VALUE}) {
            x.still(PLACE, "copy", 0, wrong, 1, 0, 1);
            x.still(PLACE, "copy", 0, 0, 1, wrong, 1);
            x.still(PLACE, "copy", 0, 0, 1, 0, wrong);
            x.still(PLACE, "copy", 0, wrong, 1, wrong, wrong);
            x.still(PLACE, "copy", 0, wrong, 1, 0, 0);
            x.still(PLACE, "copy", 0, 0, 1, wrong, 0);
        }
        x.still(PLACE, "copy", 0, MAX_VALUE, 1, 0, MAX_VALUE);
        x.still(PLACE, "copy", 0, 1, 1, 1, MAX_VALUE);
        x.still(PLACE, "copy", 0, 3, 1, 0, 1);
        x.still(PLACE, "copy", 0, 2, 1, 0, 2);
        x.still(PLACE, "copy", 0, 0, 1, 2, 1);
        x.still(PLACE, "copy", 0, 0, 1, 1, 2);
        x.still(PLACE, "copy", 0, 0, 1, 0, 3);
        x.still(PLACE, "copy", 1, 0, 0, 0, 3);
        x.still(PLACE, "copy", 0, 4, 1, 0, 0);
        x.still(PLACE, "copy", 0, 0, 1, 3, 0);
        x.is(2, "copy", 0, 1, 1, 0, 2);
        x.is(1, "copy", 0, 0, 1, 1, 1);
    }

    private static void dropMakesMissing() {
        Doc.promise(5, "A ROW is missing from now on: how many ITEMS it had.");
        Run x = rowOf(0, 3, 3);
        x.play("row", 7, 2, 40);
        x.play("row", 3, 1, 0);
        x.is(40, "drop", 7);
        x.is(0, "drop", 3);
        x.is(2, "drop", 0);
        for (int r : new int[] {0, 3, 7}) {
            holds(x, r, "missing");
            x.still(NULL, "drop", r);
            x.still(NULL, "set", r, 0, 0);
            x.still(NULL, "copy", r, 0, r, 0, 0);
        }
        x.is(2, "row", 0, 0, 2);
        holds(x, 0, "0 00");
        x.is(2, "drop", 0);
    }

    private static void dropRefuses() {
        Doc.promise(5, "BAD; NULL.");
        Run x = rowOf(0, 3, 3);
        for (int wrong : new int[] {-1, 8, MIN_VALUE, MAX_VALUE}) {
            x.still(BAD, "drop", wrong);
        }
        x.still(NULL, "drop", 1);
        x.still(NULL, "drop", 7);
        x.is(2, "drop", 0);
        x.still(NULL, "drop", 0);
    }
}
