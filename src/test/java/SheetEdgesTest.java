/** The boundaries that part 5 of the Terms and promises 24 to 28 name: sheet, lose, put, cell, copy. */
public final class SheetEdgesTest {
    private static final Edges EDGES = new Edges();
    private static final int UNKNOWN = Edges.UNKNOWN, OUTSIDE = Edges.OUTSIDE;
    private static final long LOST = Edges.LOST;
    private static final int NULL = Edges.NULL, CAST = Edges.CAST, INDEX = Edges.INDEX, SIZE = Edges.SIZE;
    private static final int[] NO_SHEETS = {Edges.LEAST_INT, -1, 4, Edges.GREATEST_INT};
    private static final int[] NO_LANES = {Edges.LEAST_INT, -1, 3, Edges.GREATEST_INT};
    /** How many cells the sheets of FLEET have; the last has nothing. */
    private static final int[] LENGTHS = {10, 20, 6};

    public static void main(String[] args) {
        fourSheets();
        rowsOfEachLength();
        newRowsAreOfZeros();
        sheetRefusals();
        loseTwice();
        loseRefusals();
        cutToBytes();
        cutToShorts();
        intsAsTheyAre();
        putRefusals();
        putPlaces();
        cellRefusals();
        cellPlaces();
        copyRefusals();
        copyIndex();
        copyOfNone();
        copyAsTheyWere();
        EDGES.end("SheetEdgesTest");
    }

    private static void fourSheets() {
        EDGES.sentence("SHEETS 0 .. 3 have nothing (at first)");
        for (int k = 0; k < 4; k++) {
            Run run = new Run();
            EDGES.dueWithFault(run, LOST, NULL, "cell", k, 0, 0);
            EDGES.dueWithFault(run, 1, 0, "sheet", k, 2, 1);
            EDGES.dueWithFault(run, 0, 0, "cell", k, 0, 2);
            for (int other = 0; other < 4; other++) {
                if (other != k) {
                    EDGES.dueWithFault(run, LOST, NULL, "cell", other, 0, 2);
                }
            }
        }
    }

    private static void rowsOfEachLength() {
        EDGES.sentence("a row of 0 .. 60 numbers (0 at first) of a LANE");
        for (int lane = 0; lane < 3; lane++) {
            for (int n : new int[] {0, 1, 59, 60}) {
                Run run = new Run();
                EDGES.dueWithFault(run, 1, 0, "sheet", 0, lane, n);
                for (int i = 0; i < n; i++) {
                    EDGES.due(run, 0, "cell", 0, i, lane);
                }
                EDGES.dueWithFault(run, LOST, INDEX, "cell", 0, n, lane);
                EDGES.dueWithFault(run, -13, INDEX, "put", 0, n, 1);
                EDGES.dueWithFault(run, LOST, CAST, "cell", 0, 0, (lane + 1) % 3);
                EDGES.dueWithFault(run, LOST, CAST, "cell", 0, 0, (lane + 2) % 3);
            }
        }
    }

    private static void newRowsAreOfZeros() {
        EDGES.sentence("Promise 24: A SHEET gets a new row: 1: nothing of the one that it had");
        Run run = new Run();
        run.lay(1, 2, 7, 8, 9);
        EDGES.due(run, 1, "sheet", 1, 2, 2);
        EDGES.due(run, 0, "cell", 1, 0, 2);
        EDGES.due(run, 0, "cell", 1, 1, 2);
        EDGES.dueWithFault(run, LOST, INDEX, "cell", 1, 2, 2);
        EDGES.due(run, 1, "sheet", 1, 0, 3);
        EDGES.due(run, 0, "cell", 1, 2, 0);
        EDGES.dueWithFault(run, LOST, CAST, "cell", 1, 0, 2);
        run.lay(1, 0, 7, 8, 9);
        EDGES.due(run, 1, "lose", 1);
        EDGES.due(run, 1, "sheet", 1, 0, 3);
        for (int i = 0; i < 3; i++) {
            EDGES.due(run, 0, "cell", 1, i, 0);
        }
        run.lay(1, 0, 7, 8, 9);
        EDGES.due(run, 1, "sheet", 1, 0, 0);
        EDGES.due(run, 1, "sheet", 1, 0, 3);
        for (int i = 0; i < 3; i++) {
            EDGES.due(run, 0, "cell", 1, i, 0);
        }
    }

    private static void sheetRefusals() {
        EDGES.sentence("Promise 24: UNKNOWN; ahead of OUTSIDE, SIZE");
        for (int k : NO_SHEETS) {
            EDGES.refused(Edges.FLEET, UNKNOWN, 0, "sheet", k, 0, 1);
            EDGES.refused(Edges.FLEET, UNKNOWN, 0, "sheet", k, 3, 1);
            EDGES.refused(Edges.FLEET, UNKNOWN, 0, "sheet", k, 0, 61);
            EDGES.refused(Edges.FLEET, UNKNOWN, 0, "sheet", k, 0, -1);
        }
        EDGES.sentence("Promise 24: OUTSIDE: lane, n above 60; ahead of SIZE");
        for (int k = 0; k < 4; k++) {
            for (int lane : NO_LANES) {
                EDGES.refused(Edges.FLEET, OUTSIDE, 0, "sheet", k, lane, 1);
                EDGES.refused(Edges.FLEET, OUTSIDE, 0, "sheet", k, lane, -1);
            }
            EDGES.refused(Edges.FLEET, OUTSIDE, 0, "sheet", k, 0, 61);
            EDGES.refused(Edges.FLEET, OUTSIDE, 0, "sheet", k, 2, Edges.GREATEST_INT);
        }
        EDGES.sentence("Promise 24: SIZE: a length below 0");
        for (int k = 0; k < 4; k++) {
            EDGES.refused(Edges.FLEET, -14, SIZE, "sheet", k, 0, -1);
            EDGES.refused(Edges.FLEET, -14, SIZE, "sheet", k, 2, Edges.LEAST_INT);
        }
        EDGES.refused(Edges.EMPTY, -14, SIZE, "sheet", 0, 0, -1);
    }

    private static void loseTwice() {
        EDGES.sentence("Promise 25: A SHEET has nothing: 1; 0: it had nothing");
        for (int k = 0; k < 4; k++) {
            Run run = new Run();
            EDGES.due(run, 0, "lose", k);
            run.call("sheet", k, 1, 0);
            EDGES.due(run, 1, "lose", k);
            EDGES.due(run, 0, "lose", k);
            EDGES.dueWithFault(run, -11, NULL, "put", k, 0, 1);
            run.call("sheet", k, 1, 60);
            run.call("sheet", (k + 1) % 4, 1, 1);
            EDGES.due(run, 1, "lose", k);
            EDGES.due(run, 0, "lose", k);
            EDGES.dueWithFault(run, 1, 0, "put", (k + 1) % 4, 0, 1);
        }
        EDGES.sentence("Promise 25: it names no FAULTS: fault() is as it was");
        Run run = new Run();
        run.call("sheet", 0, 0, -1);
        EDGES.dueWithFault(run, 0, SIZE, "lose", 0);
        run.call("sheet", 0, 0, 1);
        run.call("put", 0, 1, 1);
        EDGES.dueWithFault(run, 1, INDEX, "lose", 0);
    }

    private static void loseRefusals() {
        EDGES.sentence("Promise 25: UNKNOWN");
        for (int k : NO_SHEETS) {
            EDGES.kept(Edges.FLEET, UNKNOWN, "lose", k);
            EDGES.kept(Edges.EMPTY, UNKNOWN, "lose", k);
        }
        EDGES.kept(Edges.FLEET, 0, "lose", 3);
    }

    private static void cut(int lane, int[] values, int[] want) {
        Run run = new Run();
        run.call("sheet", 0, lane, values.length);
        for (int i = 0; i < values.length; i++) {
            EDGES.due(run, 1, "put", 0, i, values[i]);
            EDGES.due(run, want[i], "cell", 0, i, lane);
        }
    }

    private static void cutToBytes() {
        EDGES.sentence("what comes to a cell of it is cut to its LANE: 0 bytes");
        cut(0, new int[] {0, 1, -1, 127, 128, 255, 256, 257, -128, -129, -256, -257, 65536, Edges.GREATEST_INT,
            Edges.LEAST_INT, Edges.LEAST_INT + 1}, new int[] {0, 1, -1, 127, -128, -1, 0, 1, -128, 127, 0, -1, 0, -1, 0, 1});
    }

    private static void cutToShorts() {
        EDGES.sentence("what comes to a cell of it is cut to its LANE: 1 shorts");
        cut(1, new int[] {0, 128, 256, -129, 32767, 32768, 65535, 65536, 65537, -32768, -32769, -65536, -65537,
            Edges.GREATEST_INT, Edges.LEAST_INT, Edges.LEAST_INT + 1},
            new int[] {0, 128, 256, -129, 32767, -32768, -1, 0, 1, -32768, 32767, 0, -1, -1, 0, 1});
    }

    private static void intsAsTheyAre() {
        EDGES.sentence("what comes to a cell of it is cut to its LANE: 2 ints, as they are; none of them is LOST");
        int[] values = {0, -1, 128, 32768, 65536, -9, -11, Edges.GREATEST_INT, Edges.LEAST_INT};
        cut(2, values, values);
    }

    private static void putRefusals() {
        EDGES.sentence("Promise 26: UNKNOWN; ahead of NULL, INDEX");
        for (int k : NO_SHEETS) {
            EDGES.refused(Edges.FLEET, UNKNOWN, 0, "put", k, 0, 1);
            EDGES.refused(Edges.FLEET, UNKNOWN, 0, "put", k, -1, 1);
            EDGES.refused(Edges.EMPTY, UNKNOWN, 0, "put", k, 0, 1);
        }
        EDGES.sentence("Promise 26: NULL; ahead of INDEX");
        for (int i : new int[] {Edges.LEAST_INT, -1, 0, 60, Edges.GREATEST_INT}) {
            EDGES.refused(Edges.FLEET, -11, NULL, "put", 3, i, 1);
            EDGES.refused(Edges.EMPTY, -11, NULL, "put", 0, i, 1);
        }
        EDGES.sentence("Promise 26: INDEX");
        for (int k = 0; k < 3; k++) {
            for (int i : new int[] {Edges.LEAST_INT, -1, LENGTHS[k], LENGTHS[k] + 1, 60, Edges.GREATEST_INT}) {
                EDGES.refused(Edges.FLEET, -13, INDEX, "put", k, i, 99);
            }
        }
        Edges.Setup none = run -> run.call("sheet", 2, 1, 0);
        EDGES.refused(none, -13, INDEX, "put", 2, 0, 1);
        EDGES.refused(none, -13, INDEX, "put", 2, -1, 1);
    }

    private static void putPlaces() {
        EDGES.sentence("Promise 26: Cell i of a SHEET becomes v: 1; no other one does");
        for (int lane = 0; lane < 3; lane++) {
            for (int place : new int[] {0, 2, 4}) {
                Run run = new Run();
                run.lay(0, lane, 1, 2, 3, 4, 5);
                run.lay(1, lane, 1, 2, 3, 4, 5);
                EDGES.dueWithFault(run, 1, 0, "put", 0, place, 77);
                for (int i = 0; i < 5; i++) {
                    EDGES.due(run, i == place ? 77 : i + 1, "cell", 0, i, lane);
                    EDGES.due(run, i + 1, "cell", 1, i, lane);
                }
            }
        }
    }

    private static void cellRefusals() {
        EDGES.sentence("Promise 27: LOST: UNKNOWN, OUTSIDE: lane; ahead of the FAULTS");
        for (int k : NO_SHEETS) {
            EDGES.refused(Edges.FLEET, LOST, 0, "cell", k, 0, 0);
            EDGES.refused(Edges.FLEET, LOST, 0, "cell", k, -1, 3);
        }
        for (int lane : NO_LANES) {
            EDGES.refused(Edges.FLEET, LOST, 0, "cell", 0, 0, lane);
            EDGES.refused(Edges.FLEET, LOST, 0, "cell", 0, -1, lane);
            EDGES.refused(Edges.FLEET, LOST, 0, "cell", 3, 0, lane);
        }
        EDGES.sentence("Promise 27: FAULTS CAST (nothing is no CAST); ahead of INDEX");
        for (int k = 0; k < 3; k++) {
            for (int lane = 0; lane < 3; lane++) {
                if (lane != k) {
                    EDGES.refused(Edges.FLEET, LOST, CAST, "cell", k, 0, lane);
                    EDGES.refused(Edges.FLEET, LOST, CAST, "cell", k, -1, lane);
                    EDGES.refused(Edges.FLEET, LOST, CAST, "cell", k, 60, lane);
                }
            }
        }
        EDGES.sentence("Promise 27: FAULTS NULL; ahead of INDEX");
        for (int lane = 0; lane < 3; lane++) {
            for (int i : new int[] {Edges.LEAST_INT, -1, 0, 60, Edges.GREATEST_INT}) {
                EDGES.refused(Edges.FLEET, LOST, NULL, "cell", 3, i, lane);
            }
        }
        Run lost = new Run();
        lost.lay(0, 1, 5);
        lost.call("lose", 0);
        EDGES.dueWithFault(lost, LOST, NULL, "cell", 0, 0, 0);
        EDGES.dueWithFault(lost, LOST, NULL, "cell", 0, 0, 1);
    }

    private static void cellPlaces() {
        EDGES.sentence("Promise 27: FAULTS INDEX");
        for (int k = 0; k < 3; k++) {
            for (int i : new int[] {Edges.LEAST_INT, -1, LENGTHS[k], LENGTHS[k] + 1, 60, Edges.GREATEST_INT}) {
                EDGES.refused(Edges.FLEET, LOST, INDEX, "cell", k, i, k);
            }
        }
        EDGES.refused(Edges.FLEET, 'L', 0, "cell", 0, 0, 0);
        EDGES.refused(Edges.FLEET, '9', 0, "cell", 0, 9, 0);
        EDGES.refused(Edges.FLEET, 1, 0, "cell", 1, 0, 1);
        EDGES.refused(Edges.FLEET, 2, 0, "cell", 1, 19, 1);
        EDGES.refused(Edges.FLEET, 70000, 0, "cell", 2, 4, 2);
        EDGES.refused(Edges.FLEET, -1, 0, "cell", 2, 5, 2);
    }

    private static void copyRefusals() {
        EDGES.sentence("Promise 28: UNKNOWN: the first, the other; ahead of the FAULTS");
        for (int k : NO_SHEETS) {
            EDGES.refused(Edges.FLEET, UNKNOWN, 0, "copy", k, 0, 0, 0, 1);
            EDGES.refused(Edges.FLEET, UNKNOWN, 0, "copy", 0, 0, k, 0, 1);
            EDGES.refused(Edges.FLEET, UNKNOWN, 0, "copy", 3, 0, k, 0, 1);
            EDGES.refused(Edges.FLEET, UNKNOWN, 0, "copy", k, 0, 3, 0, 1);
            EDGES.refused(Edges.FLEET, UNKNOWN, 0, "copy", 0, -1, k, -1, -1);
        }
        EDGES.sentence("Promise 28: FAULTS NULL (the first, the other); ahead of CAST, INDEX");
        for (int k = 0; k < 4; k++) {
            EDGES.refused(Edges.FLEET, -11, NULL, "copy", 3, 0, k, 0, 0);
            EDGES.refused(Edges.FLEET, -11, NULL, "copy", k, 0, 3, 0, 0);
            EDGES.refused(Edges.FLEET, -11, NULL, "copy", 3, -1, k, -1, -1);
            EDGES.refused(Edges.FLEET, -11, NULL, "copy", k, -1, 3, -1, -1);
        }
        EDGES.refused(Edges.EMPTY, -11, NULL, "copy", 0, 0, 0, 0, 0);
        EDGES.sentence("Promise 28: FAULTS CAST (unlike LANES); ahead of INDEX");
        for (int k = 0; k < 3; k++) {
            for (int other = 0; other < 3; other++) {
                if (other != k) {
                    EDGES.refused(Edges.FLEET, -12, CAST, "copy", k, 0, other, 0, 1);
                    EDGES.refused(Edges.FLEET, -12, CAST, "copy", k, 0, other, 0, 0);
                    EDGES.refused(Edges.FLEET, -12, CAST, "copy", k, -1, other, -1, -1);
                }
            }
        }
    }

    /** Two sheets of one lane, of 5 cells and of 3. */
    private static final Edges.Setup TWO = run -> {
        run.lay(0, 1, 1, 2, 3, 4, 5);
        run.lay(1, 1, 7, 8, 9);
    };

    private static void copyIndex() {
        EDGES.sentence("Promise 28: INDEX: i, j, n below 0 or beyond");
        int[][] beyond = {{-1, 0, 1}, {0, -1, 1}, {0, 0, -1}, {Edges.LEAST_INT, 0, 1}, {0, Edges.LEAST_INT, 1},
            {0, 0, Edges.LEAST_INT}, {5, 0, 1}, {6, 0, 1}, {0, 3, 1}, {0, 4, 1}, {0, 0, 4}, {3, 0, 3}, {0, 1, 3},
            {0, 0, Edges.GREATEST_INT}, {Edges.GREATEST_INT, 0, 1}, {0, Edges.GREATEST_INT, 1},
            {Edges.GREATEST_INT, 0, Edges.GREATEST_INT}, {1, 1, Edges.GREATEST_INT}};
        for (int[] b : beyond) {
            EDGES.refused(TWO, -13, INDEX, "copy", 0, b[0], 1, b[1], b[2]);
            EDGES.refused(TWO, -13, INDEX, "copy", 1, b[1], 0, b[0], b[2]);
        }
        EDGES.refused(TWO, -13, INDEX, "copy", 0, 0, 0, 0, 6);
        EDGES.refused(TWO, -13, INDEX, "copy", 0, 1, 0, 0, 5);
        EDGES.refused(TWO, -13, INDEX, "copy", 0, 0, 0, 1, 5);
    }

    private static void copyOfNone() {
        EDGES.sentence("INDEX: also where i is not 0 .. how many there are, if none of them is taken, too");
        int[][] beyond = {{-1, 0}, {6, 0}, {0, -1}, {0, 4}, {Edges.GREATEST_INT, 0}, {0, Edges.LEAST_INT}};
        for (int[] b : beyond) {
            EDGES.refused(TWO, -13, INDEX, "copy", 0, b[0], 1, b[1], 0);
            EDGES.refused(TWO, -13, INDEX, "copy", 1, b[1], 0, b[0], 0);
        }
        for (int i : new int[] {0, 1, 5}) {
            for (int j : new int[] {0, 1, 3}) {
                EDGES.refused(TWO, 0, 0, "copy", 0, i, 1, j, 0);
                EDGES.refused(TWO, 0, 0, "copy", 1, j, 0, i, 0);
            }
        }
        Edges.Setup none = run -> run.call("sheet", 0, 0, 0);
        EDGES.refused(none, 0, 0, "copy", 0, 0, 0, 0, 0);
        EDGES.refused(none, -13, INDEX, "copy", 0, 1, 0, 0, 0);
        EDGES.refused(none, -13, INDEX, "copy", 0, 0, 0, 1, 0);
        EDGES.refused(none, -13, INDEX, "copy", 0, 0, 0, 0, 1);
    }

    private static void copied(int k, int i, int other, int j, int n, int... want) {
        Run run = new Run();
        TWO.on(run);
        EDGES.dueWithFault(run, n, 0, "copy", k, i, other, j, n);
        for (int c = 0; c < want.length; c++) {
            EDGES.due(run, want[c], "cell", other, c, 1);
        }
        if (k != other) {
            int[] own = k == 0 ? new int[] {1, 2, 3, 4, 5} : new int[] {7, 8, 9};
            for (int c = 0; c < own.length; c++) {
                EDGES.due(run, own[c], "cell", k, c, 1);
            }
        }
    }

    private static void copyAsTheyWere() {
        EDGES.sentence("Promise 28: n cells go to another one (perhaps the same) from j on, as they were: n");
        copied(0, 0, 1, 0, 3, 1, 2, 3);
        copied(0, 2, 1, 0, 3, 3, 4, 5);
        copied(0, 4, 1, 2, 1, 7, 8, 5);
        copied(0, 0, 1, 0, 1, 1, 8, 9);
        copied(1, 0, 0, 2, 3, 1, 2, 7, 8, 9);
        copied(1, 2, 0, 4, 1, 1, 2, 3, 4, 9);
        copied(0, 0, 0, 0, 5, 1, 2, 3, 4, 5);
        copied(0, 0, 0, 1, 4, 1, 1, 2, 3, 4);
        copied(0, 1, 0, 0, 4, 2, 3, 4, 5, 5);
        copied(0, 0, 0, 2, 3, 1, 2, 1, 2, 3);
        copied(0, 2, 0, 0, 3, 3, 4, 5, 4, 5);
        copied(0, 0, 0, 4, 1, 1, 2, 3, 4, 1);
        Run whole = new Run();
        whole.call("sheet", 0, 0, 60);
        whole.call("sheet", 1, 0, 60);
        whole.call("put", 0, 0, -128);
        whole.call("put", 0, 59, 127);
        EDGES.due(whole, 60, "copy", 0, 0, 1, 0, 60);
        EDGES.due(whole, -128, "cell", 1, 0, 0);
        EDGES.due(whole, 127, "cell", 1, 59, 0);
    }
}
