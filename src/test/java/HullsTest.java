/** Promises 1 to 5: a new object, hull, ofHull, station, build. */
public final class HullsTest {
    private static final Check CHECK = new Check();

    public static void main(String[] args) {
        newObject();
        hullsAsNumbered();
        hullFromAPlaceOfEachLane();
        hullRefusalsInOrder();
        hullFull();
        measures();
        stations();
        building();
        CHECK.end("HullsTest");
    }

    private static void newObject() {
        KeelTolls x = new KeelTolls();
        for (int what = 0; what <= 2; what++) {
            CHECK.due("new: many(" + what + ")", x.many(what), 0);
        }
        CHECK.due("new: trace()", x.trace(), 0);
        CHECK.due("new: fault()", x.fault(), 0);
        CHECK.due("new: ofHull(0, 0)", x.ofHull(0, 0), -1);
        CHECK.due("new: words(0)", x.words(0), -1);
        for (int k = 0; k < 4; k++) {
            CHECK.due("new: put(" + k + ", 0, 1)", x.put(k, 0, 1), -11);
            CHECK.due("new: lose(" + k + ")", x.lose(k), 0);
        }
        int[] atFirst = {8, 8, 9, 0, 1, 10};
        for (int what = 0; what < 6; what++) {
            CHECK.due("new: need(" + what + ", 1)", x.need(what, 1), atFirst[what]);
        }
        KeelTolls other = new KeelTolls();
        Check.hull(x, 0, 1, 1);
        CHECK.due("new: another one has no hull", other.many(0), 0);
    }

    private static void hullsAsNumbered() {
        KeelTolls x = new KeelTolls();
        CHECK.due("first hull", Check.hull(x, 2, 1, 1), 0);
        CHECK.due("second hull", Check.hull(x, 0, 9, 9, 1, 9), 1);
        CHECK.due("third hull, of 8", Check.hull(x, 1, 1, 2, 3, 4, 5, 6, 7, 8, 9, 1, 2, 3, 4, 5, 6, 7), 2);
        CHECK.due("its last depth", x.station(2, 7, 1), 7);
        CHECK.due("many(0)", x.many(0), 3);
    }

    private static void hullFromAPlaceOfEachLane() {
        for (int lane = 0; lane < 3; lane++) {
            KeelTolls x = new KeelTolls();
            x.sheet(1, lane, 7);
            for (int i = 0; i < 7; i++) {
                x.put(1, i, i + 1);
            }
            CHECK.due("hull from 3 on", x.hull(0, 1, lane, 3, 2), 0);
            CHECK.due("its first breadth", x.station(0, 0, 0), 4);
            CHECK.due("its last depth", x.station(0, 1, 1), 7);
            x.put(1, 3, 9);
            CHECK.due("it is no part of the sheet", x.station(0, 0, 0), 4);
            CHECK.due("from 4 on", x.hull(0, 1, lane, 4, 2), -13);
        }
    }

    private static void refused(KeelTolls x, String call, int got, int want, int fault) {
        CHECK.due(call, got, want);
        CHECK.due("fault() of " + call, x.fault(), fault);
        CHECK.due("many(0) after " + call, x.many(0), 0);
    }

    private static void hullRefusalsInOrder() {
        KeelTolls x = new KeelTolls();
        refused(x, "hull, sheet 4", x.hull(9, 4, 9, -1, -1), -1, 0);
        refused(x, "hull, sheet -1", x.hull(9, -1, 9, -1, -1), -1, 0);
        refused(x, "hull, kind 3", x.hull(3, 0, 0, -1, -1), -2, 0);
        refused(x, "hull, kind -1", x.hull(-1, 0, 0, -1, -1), -2, 0);
        refused(x, "hull, lane 3", x.hull(0, 0, 3, -1, -1), -2, 0);
        refused(x, "hull, lane -1", x.hull(0, 0, -1, -1, -1), -2, 0);
        refused(x, "hull of nothing", x.hull(0, 0, 1, -1, -1), -11, 1);
        x.sheet(0, 0, 20);
        refused(x, "hull of another lane", x.hull(0, 0, 1, -1, -1), -12, 2);
        refused(x, "hull, n below 0", x.hull(0, 0, 0, -1, -1), -14, 4);
        refused(x, "hull, n far below 0", x.hull(0, 0, 0, 0, Integer.MIN_VALUE), -14, 4);
        refused(x, "hull, i below 0", x.hull(0, 0, 0, -1, 1), -13, 3);
        refused(x, "hull, i below 0, none", x.hull(0, 0, 0, -1, 0), -13, 3);
        refused(x, "hull, i beyond, none", x.hull(0, 0, 0, 21, 0), -13, 3);
        refused(x, "hull, i at the end, none", x.hull(0, 0, 0, 20, 0), -2, 0);
        refused(x, "hull, i far beyond", x.hull(0, 0, 0, Integer.MAX_VALUE, 1), -13, 3);
        refused(x, "hull, 11 stations", x.hull(0, 0, 0, 0, 11), -13, 3);
        refused(x, "hull, twice n wraps to 0", x.hull(0, 0, 0, 0, 1 << 30), -13, 3);
        refused(x, "hull, n the greatest", x.hull(0, 0, 0, 0, Integer.MAX_VALUE), -13, 3);
        for (int i = 0; i < 20; i++) {
            x.put(0, i, 1);
        }
        refused(x, "hull, 9 stations", x.hull(0, 0, 0, 0, 9), -2, 0);
        refused(x, "hull, 0 stations", x.hull(0, 0, 0, 0, 0), -2, 0);
        for (int bad : new int[] {0, 10, -1}) {
            x.put(0, 3, bad);
            refused(x, "hull, a depth of " + bad, x.hull(0, 0, 0, 0, 2), -2, 0);
            refused(x, "hull, a breadth of " + bad, x.hull(0, 0, 0, 3, 1), -2, 0);
        }
        CHECK.due("hull beside it", x.hull(0, 0, 0, 4, 8), 0);
        CHECK.due("fault() of it", x.fault(), 0);
    }

    private static void hullFull() {
        KeelTolls x = new KeelTolls();
        for (int h = 0; h < 16; h++) {
            CHECK.due("hull " + h, Check.hull(x, h % 3, 1 + h % 9, 2), h);
        }
        CHECK.due("hull 16", Check.hull(x, 0, 1, 1), -4);
        CHECK.due("fault()", x.fault(), 0);
        CHECK.due("hull 16, not as told", Check.hull(x, 0, 1, 0), -2);
        CHECK.due("many(0)", x.many(0), 16);
        CHECK.due("ofHull(15, 1)", x.ofHull(15, 1), 7);
        CHECK.due("ofHull(16, 1)", x.ofHull(16, 1), -1);
    }

    private static long[] allOf(KeelTolls x, int h) {
        long[] all = new long[11];
        for (int what = 0; what < all.length; what++) {
            all[what] = x.ofHull(h, what);
        }
        return all;
    }

    private static void measures() {
        KeelTolls x = new KeelTolls();
        int[] row = {2, 7, 6, 3, 4, 1, 5, 8};
        for (int kind = 0; kind < 3; kind++) {
            Check.hull(x, kind, row);
        }
        CHECK.dueAll("HULL of 4", allOf(x, 0), 4, 6, 4, 17, 8, 1, 19, 0, 76, 55, 0);
        CHECK.dueAll("DECKED of 4", allOf(x, 1), 4, 6, 4, 17, 8, 1, 19, 1, 93, 55, 1);
        CHECK.dueAll("RAKED of 4", allOf(x, 2), 2, 6, 4, 17, 8, 1, 19, 1, 93, 55, 2);
        Check.hull(x, 2, 3, 2, 7, 9, 1, 1);
        CHECK.dueAll("RAKED of 3", allOf(x, 3), 1, 7, 7, 11, 9, 9, 12, 1, 81, 35, 2);
        Check.hull(x, 2, 3, 2, 7, 9);
        CHECK.due("L of RAKED of 2", x.ofHull(4, 0), 0);
        Check.hull(x, 2, 3, 2);
        CHECK.due("L of RAKED of 1", x.ofHull(5, 0), 0);
        x.need(4, 0);
        CHECK.due("COST without PLANK", x.ofHull(0, 9), 0);
        x.need(4, 9);
        CHECK.due("COST of PLANK 9", x.ofHull(0, 9), 495);
        CHECK.due("ofHull(0, 11)", x.ofHull(0, 11), -2);
        CHECK.due("ofHull(0, -1)", x.ofHull(0, -1), -2);
        CHECK.due("ofHull(6, 11)", x.ofHull(6, 11), -1);
        CHECK.due("ofHull(-1, 0)", x.ofHull(-1, 0), -1);
    }

    private static void stations() {
        KeelTolls x = new KeelTolls();
        Check.hull(x, 2, 2, 7, 6, 3);
        CHECK.due("station(0, 0, 0)", x.station(0, 0, 0), 2);
        CHECK.due("station(0, 0, 1)", x.station(0, 0, 1), 7);
        CHECK.due("station(0, 1, 0)", x.station(0, 1, 0), 6);
        CHECK.due("station(0, 1, 1)", x.station(0, 1, 1), 3);
        CHECK.due("station(1, 0, 2)", x.station(1, 0, 2), -1);
        CHECK.due("station(-1, 0, 0)", x.station(-1, 0, 0), -1);
        CHECK.due("station(0, 2, 2)", x.station(0, 2, 2), -1);
        CHECK.due("station(0, -1, 0)", x.station(0, -1, 0), -1);
        CHECK.due("station(0, 1, 2)", x.station(0, 1, 2), -2);
        CHECK.due("station(0, 1, -1)", x.station(0, 1, -1), -2);
    }

    private static void building() {
        KeelTolls x = new KeelTolls();
        Check.hull(x, 1, 2, 7, 6, 3);
        Check.hull(x, 1, 2, 7, 6, 3);
        CHECK.due("build(0, 1, 0, 9)", x.build(0, 1, 0, 9), 6);
        CHECK.due("build(0, 1, 1, 1)", x.build(0, 1, 1, 1), 3);
        CHECK.due("build(0, 0, 1, 4)", x.build(0, 0, 1, 4), 7);
        CHECK.due("built HOLDS", x.ofHull(0, 8), 8 + 9 + 11);
        CHECK.due("the other HOLDS", x.ofHull(1, 8), 14 + 18 + 8);
        CHECK.due("build(2, 0, 0, 0)", x.build(2, 0, 0, 0), -1);
        CHECK.due("build(0, 2, 2, 0)", x.build(0, 2, 2, 0), -1);
        CHECK.due("build(0, -1, 0, 1)", x.build(0, -1, 0, 1), -1);
        CHECK.due("build(0, 0, 2, 1)", x.build(0, 0, 2, 1), -2);
        CHECK.due("build(0, 0, -1, 1)", x.build(0, 0, -1, 1), -2);
        CHECK.due("build(0, 0, 0, 0)", x.build(0, 0, 0, 0), -2);
        CHECK.due("build(0, 0, 0, 10)", x.build(0, 0, 0, 10), -2);
        CHECK.due("nothing is changed by them", x.ofHull(0, 8), 28);
        CHECK.due("build(0, 0, 0, 1)", x.build(0, 0, 0, 1), 2);
    }
}
