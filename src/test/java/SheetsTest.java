/** Promises 24 to 34: sheet, lose, put, cell, copy, tell, launch, as, trace, fault, many. */
public final class SheetsTest {
    private static final Check CHECK = new Check();
    private static final long LOST = Check.LOST;

    public static void main(String[] args) {
        newRows();
        losing();
        putting();
        cells();
        copies();
        copyFaultsInOrder();
        telling();
        launching();
        takenAs();
        faultOfTheLatest();
        manyOfThem();
        CHECK.end("SheetsTest");
    }

    private static void dueFault(KeelTolls x, String call, long got, long want, int fault) {
        CHECK.due(call, got, want);
        CHECK.due("fault() of " + call, x.fault(), fault);
    }

    private static void newRows() {
        KeelTolls x = new KeelTolls();
        dueFault(x, "sheet(4, 3, 61)", x.sheet(4, 3, 61), -1, 0);
        dueFault(x, "sheet(-1, 0, 1)", x.sheet(-1, 0, 1), -1, 0);
        dueFault(x, "sheet(0, 3, -1)", x.sheet(0, 3, -1), -2, 0);
        dueFault(x, "sheet(0, -1, 1)", x.sheet(0, -1, 1), -2, 0);
        dueFault(x, "sheet(0, 0, 61)", x.sheet(0, 0, 61), -2, 0);
        dueFault(x, "sheet(0, 0, -1)", x.sheet(0, 0, -1), -14, 4);
        CHECK.due("it has nothing still", x.lose(0), 0);
        dueFault(x, "sheet(0, 0, 0)", x.sheet(0, 0, 0), 1, 0);
        CHECK.due("it has a row", x.lose(0), 1);
        CHECK.due("sheet(3, 2, 60)", x.sheet(3, 2, 60), 1);
        x.put(3, 59, 7);
        CHECK.due("cell 59", x.cell(3, 59, 2), 7);
        dueFault(x, "sheet(3, 2, -1)", x.sheet(3, 2, -1), -14, 4);
        dueFault(x, "sheet(3, 2, 61)", x.sheet(3, 2, 61), -2, 0);
        CHECK.due("cell 59 still", x.cell(3, 59, 2), 7);
        CHECK.due("sheet(3, 2, 60) again", x.sheet(3, 2, 60), 1);
        CHECK.due("cell 59 of the new row", x.cell(3, 59, 2), 0);
        x.put(3, 5, 7);
        x.sheet(3, 1, 5);
        x.sheet(3, 2, 6);
        CHECK.due("cell 5 of a row after a lesser one", x.cell(3, 5, 2), 0);
    }

    private static void losing() {
        KeelTolls x = new KeelTolls();
        x.sheet(1, 0, 1);
        x.put(1, 0, 5);
        CHECK.due("lose(1)", x.lose(1), 1);
        CHECK.due("lose(1) again", x.lose(1), 0);
        dueFault(x, "put after it", x.put(1, 0, 1), -11, 1);
        CHECK.due("lose(4)", x.lose(4), -1);
        CHECK.due("lose(-1)", x.lose(-1), -1);
        CHECK.due("fault() is not changed by lose", x.fault(), 1);
        x.sheet(1, 0, 1);
        CHECK.due("a new row of 0", x.cell(1, 0, 0), 0);
    }

    private static void putting() {
        KeelTolls x = new KeelTolls();
        int[] values = {127, 128, -129, 32767, 32768, 70001, Integer.MIN_VALUE, -1};
        for (int v : values) {
            long[] cut = {(byte) v, (short) v, v};
            for (int lane = 0; lane < 3; lane++) {
                x.sheet(lane, lane, 2);
                CHECK.due("put " + v, x.put(lane, 1, v), 1);
                CHECK.due("cell of " + v, x.cell(lane, 1, lane), cut[lane]);
                CHECK.due("the cell beside it", x.cell(lane, 0, lane), 0);
            }
        }
        dueFault(x, "put(4, -1, 1)", x.put(4, -1, 1), -1, 0);
        dueFault(x, "put(3, -1, 1)", x.put(3, -1, 1), -11, 1);
        dueFault(x, "put(0, -1, 1)", x.put(0, -1, 1), -13, 3);
        dueFault(x, "put(0, 2, 1)", x.put(0, 2, 1), -13, 3);
        dueFault(x, "put(0, the greatest, 1)", x.put(0, Integer.MAX_VALUE, 1), -13, 3);
        dueFault(x, "put(0, 0, 1)", x.put(0, 0, 1), 1, 0);
    }

    private static void cells() {
        KeelTolls x = new KeelTolls();
        dueFault(x, "cell(4, 0, 3)", x.cell(4, 0, 3), LOST, 0);
        dueFault(x, "cell(-1, 0, 0)", x.cell(-1, 0, 0), LOST, 0);
        dueFault(x, "cell(0, 0, 3)", x.cell(0, 0, 3), LOST, 0);
        dueFault(x, "cell(0, 0, -1)", x.cell(0, 0, -1), LOST, 0);
        dueFault(x, "cell of nothing", x.cell(0, -1, 1), LOST, 1);
        x.sheet(0, 2, 1);
        dueFault(x, "cell, another lane", x.cell(0, -1, 1), LOST, 2);
        dueFault(x, "cell(0, -1, 2)", x.cell(0, -1, 2), LOST, 3);
        dueFault(x, "cell(0, 1, 2)", x.cell(0, 1, 2), LOST, 3);
        dueFault(x, "cell(0, 0, 2)", x.cell(0, 0, 2), 0, 0);
        x.sheet(0, 2, 0);
        dueFault(x, "cell of none", x.cell(0, 0, 2), LOST, 3);
        dueFault(x, "cell(4, 0, 0) after a fault", x.cell(4, 0, 0), LOST, 0);
        x.cell(0, 0, 2);
        dueFault(x, "cell(0, 0, 3) after a fault", x.cell(0, 0, 3), LOST, 0);
    }

    private static void lay(KeelTolls x, int k, int lane, int... values) {
        x.sheet(k, lane, values.length);
        for (int i = 0; i < values.length; i++) {
            x.put(k, i, values[i]);
        }
    }

    private static long[] read(KeelTolls x, int k, int lane, int n) {
        long[] values = new long[n];
        for (int i = 0; i < n; i++) {
            values[i] = x.cell(k, i, lane);
        }
        return values;
    }

    private static void copies() {
        KeelTolls x = new KeelTolls();
        lay(x, 0, 1, 1, 2, 3, 4, 5);
        lay(x, 1, 1, 9, 9, 9);
        CHECK.due("copy(0, 1, 1, 1, 2)", x.copy(0, 1, 1, 1, 2), 2);
        CHECK.dueAll("the other", read(x, 1, 1, 3), 9, 2, 3);
        CHECK.due("copy(0, 0, 0, 1, 4)", x.copy(0, 0, 0, 1, 4), 4);
        CHECK.dueAll("forth, as they were", read(x, 0, 1, 5), 1, 1, 2, 3, 4);
        CHECK.due("copy(0, 2, 0, 0, 3)", x.copy(0, 2, 0, 0, 3), 3);
        CHECK.dueAll("back, as they were", read(x, 0, 1, 5), 2, 3, 4, 3, 4);
        CHECK.due("copy of none, at both ends", x.copy(0, 5, 1, 3, 0), 0);
        CHECK.dueAll("the other as it was", read(x, 1, 1, 3), 9, 2, 3);
    }

    private static void copyFaultsInOrder() {
        KeelTolls x = new KeelTolls();
        dueFault(x, "copy, sheet 4", x.copy(4, -1, 0, -1, -1), -1, 0);
        dueFault(x, "copy, other 4", x.copy(0, -1, 4, -1, -1), -1, 0);
        dueFault(x, "copy, other -1", x.copy(0, -1, -1, -1, -1), -1, 0);
        lay(x, 0, 1, 1, 2, 3);
        dueFault(x, "copy of nothing", x.copy(1, -1, 0, -1, -1), -11, 1);
        dueFault(x, "copy to nothing", x.copy(0, -1, 1, -1, -1), -11, 1);
        lay(x, 1, 2, 7, 8, 9, 10);
        dueFault(x, "copy, unlike lanes", x.copy(0, -1, 1, -1, -1), -12, 2);
        lay(x, 1, 1, 7, 8, 9, 10);
        dueFault(x, "copy, i below 0", x.copy(0, -1, 1, 0, 0), -13, 3);
        dueFault(x, "copy, j below 0", x.copy(0, 0, 1, -1, 0), -13, 3);
        dueFault(x, "copy, n below 0", x.copy(0, 0, 1, 0, -1), -13, 3);
        dueFault(x, "copy, i beyond", x.copy(0, 4, 1, 0, 0), -13, 3);
        dueFault(x, "copy, j beyond", x.copy(0, 0, 1, 5, 0), -13, 3);
        dueFault(x, "copy, n beyond", x.copy(0, 0, 1, 0, 4), -13, 3);
        dueFault(x, "copy, n beyond the other", x.copy(1, 0, 0, 0, 4), -13, 3);
        dueFault(x, "copy, n far beyond", x.copy(1, 1, 0, 1, Integer.MAX_VALUE), -13, 3);
        CHECK.dueAll("the other as it was", read(x, 1, 1, 4), 7, 8, 9, 10);
        dueFault(x, "copy after a fault", x.copy(0, 0, 1, 1, 3), 3, 0);
        x.copy(0, 0, 1, 0, -1);
        dueFault(x, "copy, sheet 4, after a fault", x.copy(4, 0, 1, 0, 1), -1, 0);
    }

    private static void telling() {
        KeelTolls x = new KeelTolls();
        Check.hull(x, 2, 1, 1, 2, 2, 3, 3);
        Check.hull(x, 1, 1, 1, 2, 2);
        Check.hull(x, 0, 1, 1, 2, 2, 3, 3, 4, 4);
        CHECK.due("tell(2), HULL", x.tell(2), 4);
        CHECK.due("trace()", x.trace(), 1);
        CHECK.due("tell(1), DECKED", x.tell(1), 102);
        CHECK.due("trace()", x.trace(), (1 * 31 + 2) * 31 + 1);
        CHECK.due("tell(0), RAKED", x.tell(0), 106);
        int want = 1024;
        for (int body : new int[] {3, 2, 1, 1}) {
            want = 31 * want + body;
        }
        CHECK.due("trace()", x.trace(), want);
        CHECK.due("tell(3)", x.tell(3), -1);
        CHECK.due("tell(-1)", x.tell(-1), -1);
        CHECK.due("trace() is as it was", x.trace(), want);
    }

    private static void launching() {
        KeelTolls x = new KeelTolls();
        Check.hull(x, 2, 1, 1);
        Check.hull(x, 0, 1, 1);
        Check.hull(x, 0, 1, 1);
        Check.hull(x, 1, 1, 1);
        CHECK.due("launch(0), RAKED", x.launch(0), 90);
        CHECK.due("trace()", x.trace(), 5);
        CHECK.due("launch(2), HULL", x.launch(2), 2);
        CHECK.due("trace()", x.trace(), 159);
        CHECK.due("launch(3), DECKED", x.launch(3), 3);
        CHECK.due("trace()", x.trace(), 4933);
        CHECK.due("launch(4)", x.launch(4), -1);
        CHECK.due("launch(-1)", x.launch(-1), -1);
        CHECK.due("trace() is as it was", x.trace(), 4933);
    }

    private static void takenAs() {
        KeelTolls x = new KeelTolls();
        for (int kind = 0; kind < 3; kind++) {
            Check.hull(x, kind, 1, 1);
            for (int as = 0; as < 3; as++) {
                boolean is = as <= kind;
                dueFault(x, "as(" + kind + ", " + as + ")", x.as(kind, as), is ? 1 : -12, is ? 0 : 2);
            }
        }
        dueFault(x, "as(3, 3)", x.as(3, 3), -1, 0);
        dueFault(x, "as(0, 3)", x.as(0, 3), -2, 0);
        dueFault(x, "as(0, -1)", x.as(0, -1), -2, 0);
    }

    private static void faultOfTheLatest() {
        KeelTolls x = new KeelTolls();
        Check.hull(x, 0, 1, 1);
        Check.law(x, "L");
        x.as(0, 2);
        CHECK.due("fault()", x.fault(), 2);
        x.tell(9);
        x.owes(9, 9);
        x.need(9, 9);
        x.many(9);
        x.lose(0);
        x.best(1, 1, 0, 0, 0);
        x.mend(0, 0, 0, 0);
        x.build(0, 0, 0, 1);
        CHECK.due("fault() after calls that name none", x.fault(), 2);
        CHECK.due("fault() again", x.fault(), 2);
        x.put(9, 0, 0);
        CHECK.due("fault() after one that is refused", x.fault(), 0);
        x.put(0, 0, 0);
        CHECK.due("fault() of put", x.fault(), 1);
        x.as(0, 0);
        CHECK.due("fault() after one that came to none", x.fault(), 0);
    }

    private static void manyOfThem() {
        KeelTolls x = new KeelTolls();
        Check.hull(x, 0, 1, 1);
        Check.law(x, "L+B+D");
        Check.law(x, "L*");
        Check.law(x, "L");
        CHECK.due("many(0)", x.many(0), 1);
        CHECK.due("many(1)", x.many(1), 2);
        CHECK.due("many(2)", x.many(2), 4);
        CHECK.due("many(3)", x.many(3), -2);
        CHECK.due("many(-1)", x.many(-1), -2);
    }
}
