import java.util.Arrays;

/** The boundaries that part 1 of the Terms and promises 1 to 5 name. */
public final class HullEdgesTest {
    private static final Edges EDGES = new Edges();
    private static final int UNKNOWN = Edges.UNKNOWN, OUTSIDE = Edges.OUTSIDE, FULL = Edges.FULL;
    private static final int[] ONES = {1, 1, 1, 1, 1, 1, 1, 1, 1, 1, 1, 1, 1, 1, 1, 1, 1, 1};

    public static void main(String[] args) {
        newObject();
        sixteenEver();
        stationsOneToEight();
        partsOneToNine();
        partsAsTheirLaneCutsThem();
        kinds();
        rakedKeels();
        middles();
        leastAndGreatestMeasures();
        hullUnknownOrOutside();
        hullCastOrNull();
        hullSize();
        hullIndex();
        hullOutsideBehindFaults();
        hullFull();
        ofHullBounds();
        stationBounds();
        buildBounds();
        buildOnce();
        EDGES.end("HullEdgesTest");
    }

    private static int[] row(int stations) {
        return Arrays.copyOf(ONES, 2 * stations);
    }

    private static void newObject() {
        EDGES.sentence("Promise 1: No HULLS, LAWS, SHEETS");
        for (int what = 0; what < 3; what++) {
            EDGES.kept(Edges.EMPTY, 0, "many", what);
        }
        EDGES.kept(Edges.EMPTY, UNKNOWN, "ofHull", 0, 0);
        EDGES.kept(Edges.EMPTY, UNKNOWN, "words", 0);
        for (int k = 0; k < 4; k++) {
            EDGES.kept(Edges.EMPTY, 0, "lose", k);
            EDGES.refused(Edges.EMPTY, -11, Edges.NULL, "put", k, 0, 1);
        }
        EDGES.sentence("Promises 32, 33: TRACE is 0 at first, fault() 0 ahead of any");
        EDGES.due(new Run(), 0, "trace");
        EDGES.due(new Run(), 0, "fault");
    }

    private static void sixteenEver() {
        EDGES.sentence("HULLS, 16 ever, numbered as they come");
        Run run = new Run();
        run.lay(0, 2, ONES);
        for (int h = 0; h < 16; h++) {
            EDGES.due(run, UNKNOWN, "ofHull", h, 10);
            EDGES.due(run, h, "hull", h % 3, 0, 2, 0, 1);
            EDGES.due(run, h % 3, "ofHull", h, 10);
            EDGES.due(run, h + 1, "many", 0);
        }
        for (int again = 0; again < 3; again++) {
            EDGES.due(run, FULL, "hull", again, 0, 2, 0, 1);
            EDGES.due(run, 16, "many", 0);
            EDGES.due(run, UNKNOWN, "ofHull", 16, 10);
        }
    }

    private static void stationsOneToEight() {
        EDGES.sentence("1 to 8 STATIONS");
        for (int n = 0; n <= 9; n++) {
            Run run = new Run();
            run.lay(0, 0, ONES);
            EDGES.due(run, n >= 1 && n <= 8 ? 0 : OUTSIDE, "hull", 0, 0, 0, 0, n);
            EDGES.due(run, n >= 1 && n <= 8 ? n : UNKNOWN, "ofHull", 0, 0);
        }
    }

    private static void partsOneToNine() {
        EDGES.sentence("each of BREADTH, DEPTH (1 .. 9 each)");
        for (int place = 0; place < 16; place++) {
            for (int v : new int[] {Edges.LEAST_INT, -1, 0, 1, 9, 10, Edges.GREATEST_INT}) {
                Run run = new Run();
                run.lay(1, 2, ONES);
                run.call("put", 1, place, v);
                boolean asTold = v >= 1 && v <= 9;
                EDGES.dueWithFault(run, asTold ? 0 : OUTSIDE, 0, "hull", 1, 1, 2, 0, 8);
                EDGES.due(run, asTold ? v : UNKNOWN, "station", 0, place / 2, place % 2);
            }
        }
        EDGES.sentence("n STATIONS of two cells from i on: what stands ahead of and behind them is not looked at");
        Run run = new Run();
        run.lay(1, 2, 0, 2, 9, 10);
        EDGES.due(run, OUTSIDE, "hull", 0, 1, 2, 0, 1);
        EDGES.due(run, OUTSIDE, "hull", 0, 1, 2, 2, 1);
        EDGES.due(run, 0, "hull", 0, 1, 2, 1, 1);
        EDGES.due(run, 2, "station", 0, 0, 0);
        EDGES.due(run, 9, "station", 0, 0, 1);
    }

    private static void partsAsTheirLaneCutsThem() {
        EDGES.sentence("what comes to a cell is cut to its LANE: so is a BREADTH, a DEPTH");
        int[] wraps = {256, 65536};
        for (int lane = 0; lane < 2; lane++) {
            Run run = new Run();
            run.lay(0, lane, wraps[lane] + 1, wraps[lane] + 9, wraps[lane], 1, wraps[lane] + 10, 1);
            EDGES.due(run, 0, "hull", 0, 0, lane, 0, 1);
            EDGES.due(run, 1, "station", 0, 0, 0);
            EDGES.due(run, 9, "station", 0, 0, 1);
            EDGES.due(run, OUTSIDE, "hull", 0, 0, lane, 2, 1);
            EDGES.due(run, OUTSIDE, "hull", 0, 0, lane, 4, 1);
        }
        Run ints = new Run();
        ints.lay(0, 2, 257, 65537);
        EDGES.due(ints, OUTSIDE, "hull", 0, 0, 2, 0, 1);
    }

    private static void kinds() {
        EDGES.sentence("of a kind: 0 HULL; 1 DECKED, a HULL; 2 RAKED, a DECKED");
        for (int kind = -1; kind <= 3; kind++) {
            Run run = new Run();
            run.lay(0, 0, ONES);
            boolean asTold = kind >= 0 && kind <= 2;
            EDGES.due(run, asTold ? 0 : OUTSIDE, "hull", kind, 0, 0, 0, 1);
            EDGES.due(run, asTold ? kind : UNKNOWN, "ofHull", 0, 10);
            EDGES.due(run, asTold ? Math.min(kind, 1) : UNKNOWN, "ofHull", 0, 7);
        }
    }

    private static void rakedKeels() {
        EDGES.sentence("L how many STATIONS (of a RAKED one 2 less, 0 at least)");
        int[] raked = {0, 0, 0, 1, 2, 3, 4, 5, 6};
        for (int n = 1; n <= 8; n++) {
            Run run = new Run();
            for (int kind = 0; kind < 3; kind++) {
                run.hull(kind, row(n));
                EDGES.due(run, kind == 2 ? raked[n] : n, "ofHull", kind, 0);
            }
        }
    }

    private static void middles() {
        EDGES.sentence("M that of the middle STATION (by how many there are, halved); H that of the middle one");
        int[] parts = {1, 9, 2, 8, 3, 7, 4, 6, 5, 5, 6, 4, 7, 3, 8, 2};
        int[] breadths = {0, 1, 2, 2, 3, 3, 4, 4, 5};
        for (int n = 1; n <= 8; n++) {
            for (int kind = 0; kind < 3; kind++) {
                Run run = new Run();
                run.hull(kind, Arrays.copyOf(parts, 2 * n));
                EDGES.due(run, breadths[n], "ofHull", 0, 2);
                EDGES.due(run, 10 - breadths[n], "ofHull", 0, 5);
            }
        }
    }

    private static void measures(int kind, int[] row, int... want) {
        Run run = new Run();
        run.hull(kind, row);
        for (int what = 0; what < want.length; what++) {
            EDGES.due(run, want[what], "ofHull", 0, what);
        }
    }

    private static void leastAndGreatestMeasures() {
        EDGES.sentence("MEASURES, HOLDS, COST of the least HULL and of the greatest one");
        int[] greatest = {9, 9, 9, 9, 9, 9, 9, 9, 9, 9, 9, 9, 9, 9, 9, 9};
        measures(0, row(1), 1, 1, 1, 1, 1, 1, 1, 0, 1, 3, 0);
        measures(1, row(1), 1, 1, 1, 1, 1, 1, 1, 1, 2, 3, 1);
        measures(2, row(1), 0, 1, 1, 1, 1, 1, 1, 1, 2, 3, 2);
        measures(0, greatest, 8, 9, 9, 72, 9, 9, 72, 0, 648, 216, 0);
        measures(1, greatest, 8, 9, 9, 72, 9, 9, 72, 1, 720, 216, 1);
        measures(2, greatest, 6, 9, 9, 72, 9, 9, 72, 1, 720, 216, 2);
        EDGES.sentence("B the greatest BREADTH, D the greatest DEPTH: at either end, too");
        measures(0, new int[] {9, 1, 1, 1, 1, 8}, 3, 9, 1, 11, 8, 1, 10);
        measures(0, new int[] {1, 8, 1, 1, 9, 1}, 3, 9, 1, 11, 8, 1, 10);
    }

    private static void hullUnknownOrOutside() {
        EDGES.sentence("Promise 2: UNKNOWN; it comes ahead of all else");
        for (int sheet : new int[] {Edges.LEAST_INT, -1, 4, Edges.GREATEST_INT}) {
            EDGES.refused(Edges.FLEET, UNKNOWN, 0, "hull", 0, sheet, 1, 0, 1);
            EDGES.refused(Edges.FLEET, UNKNOWN, 0, "hull", 3, sheet, 3, -1, -1);
        }
        EDGES.refused(Edges.ALL_HULLS, UNKNOWN, 0, "hull", 0, 4, 1, 0, 1);
        EDGES.sentence("Promise 2: OUTSIDE: kind, lane; ahead of NULL, CAST, SIZE, INDEX");
        for (int beyond : new int[] {Edges.LEAST_INT, -1, 3, Edges.GREATEST_INT}) {
            EDGES.refused(Edges.FLEET, OUTSIDE, 0, "hull", beyond, 1, 1, 0, 1);
            EDGES.refused(Edges.FLEET, OUTSIDE, 0, "hull", 0, 1, beyond, 0, 1);
            EDGES.refused(Edges.FLEET, OUTSIDE, 0, "hull", beyond, 3, 0, 0, 1);
            EDGES.refused(Edges.FLEET, OUTSIDE, 0, "hull", 0, 3, beyond, 0, 1);
            EDGES.refused(Edges.FLEET, OUTSIDE, 0, "hull", beyond, 1, 0, 0, 1);
            EDGES.refused(Edges.FLEET, OUTSIDE, 0, "hull", beyond, 1, 1, 0, -1);
            EDGES.refused(Edges.FLEET, OUTSIDE, 0, "hull", 0, 1, beyond, -1, 1);
        }
    }

    private static void hullCastOrNull() {
        EDGES.sentence("Promise 2: CAST (nothing is no CAST); ahead of SIZE, INDEX");
        for (int sheet = 0; sheet < 3; sheet++) {
            for (int lane = 0; lane < 3; lane++) {
                if (lane != sheet) {
                    EDGES.refused(Edges.FLEET, -12, Edges.CAST, "hull", 0, sheet, lane, 0, 1);
                    EDGES.refused(Edges.FLEET, -12, Edges.CAST, "hull", 0, sheet, lane, 0, -1);
                    EDGES.refused(Edges.FLEET, -12, Edges.CAST, "hull", 0, sheet, lane, -1, 1);
                }
            }
        }
        EDGES.sentence("Promise 2: NULL; ahead of SIZE, INDEX");
        for (int lane = 0; lane < 3; lane++) {
            EDGES.refused(Edges.FLEET, -11, Edges.NULL, "hull", 0, 3, lane, 0, 1);
            EDGES.refused(Edges.FLEET, -11, Edges.NULL, "hull", 0, 3, lane, 0, -1);
            EDGES.refused(Edges.FLEET, -11, Edges.NULL, "hull", 0, 3, lane, -1, 0);
        }
    }

    private static void hullSize() {
        EDGES.sentence("Promise 2: SIZE: n below 0; ahead of INDEX");
        for (int n : new int[] {-1, -8, -(1 << 30), -(1 << 30) - 1, Edges.LEAST_INT}) {
            EDGES.refused(Edges.FLEET, -14, Edges.SIZE, "hull", 0, 1, 1, 0, n);
            EDGES.refused(Edges.FLEET, -14, Edges.SIZE, "hull", 0, 1, 1, -1, n);
            EDGES.refused(Edges.FLEET, -14, Edges.SIZE, "hull", 0, 1, 1, 21, n);
        }
        EDGES.refused(Edges.FLEET, OUTSIDE, 0, "hull", 0, 1, 1, 0, 0);
    }

    private static void hullIndex() {
        EDGES.sentence("Promise 2: INDEX: 2 n cells; ahead of OUTSIDE: n is not 1 .. 8");
        int[][] beyond = {{-1, 1}, {19, 1}, {20, 1}, {21, 1}, {5, 8}, {0, 11}, {3, 9}, {-1, 9},
            {Edges.LEAST_INT, 1}, {Edges.GREATEST_INT, 1}, {0, 1 << 30}, {0, (1 << 30) + 1}, {0, Edges.GREATEST_INT},
            {20, Edges.GREATEST_INT}, {Edges.GREATEST_INT, Edges.GREATEST_INT}};
        for (int[] b : beyond) {
            EDGES.refused(Edges.FLEET, -13, Edges.INDEX, "hull", 0, 1, 1, b[0], b[1]);
        }
        int[][] within = {{0, 1}, {18, 1}, {4, 8}, {0, 8}};
        for (int[] w : within) {
            Run run = new Run();
            Edges.FLEET.on(run);
            EDGES.dueWithFault(run, 3, 0, "hull", 0, 1, 1, w[0], w[1]);
            EDGES.due(run, w[1], "ofHull", 3, 0);
            EDGES.due(run, w[0] % 9 + 1, "station", 3, 0, 0);
            EDGES.due(run, (w[0] + 2 * w[1] - 1) % 9 + 1, "station", 3, w[1] - 1, 1);
        }
        EDGES.sentence("INDEX: also where i is not 0 .. how many there are, if none of them is taken, too");
        for (int i : new int[] {Edges.LEAST_INT, -1, 21, Edges.GREATEST_INT}) {
            EDGES.refused(Edges.FLEET, -13, Edges.INDEX, "hull", 0, 1, 1, i, 0);
        }
        for (int i : new int[] {0, 19, 20}) {
            EDGES.refused(Edges.FLEET, OUTSIDE, 0, "hull", 0, 1, 1, i, 0);
        }
        Run none = new Run();
        none.call("sheet", 0, 0, 0);
        EDGES.dueWithFault(none, OUTSIDE, 0, "hull", 0, 0, 0, 0, 0);
        EDGES.dueWithFault(none, -13, Edges.INDEX, "hull", 0, 0, 0, 1, 0);
        EDGES.dueWithFault(none, -13, Edges.INDEX, "hull", 0, 0, 0, -1, 0);
        EDGES.dueWithFault(none, -13, Edges.INDEX, "hull", 0, 0, 0, 0, 1);
    }

    private static void hullOutsideBehindFaults() {
        EDGES.sentence("Promise 2: OUTSIDE: n is not 1 .. 8, a number");
        EDGES.refused(Edges.FLEET, OUTSIDE, 0, "hull", 0, 1, 1, 0, 9);
        EDGES.refused(Edges.FLEET, OUTSIDE, 0, "hull", 0, 1, 1, 0, 10);
        EDGES.refused(Edges.FLEET, OUTSIDE, 0, "hull", 0, 2, 2, 0, 1);
        EDGES.refused(Edges.FLEET, OUTSIDE, 0, "hull", 0, 2, 2, 2, 1);
        EDGES.refused(Edges.FLEET, OUTSIDE, 0, "hull", 0, 2, 2, 4, 1);
        EDGES.refused(Edges.FLEET, OUTSIDE, 0, "hull", 0, 2, 2, 1, 2);
        Run run = new Run();
        Edges.FLEET.on(run);
        EDGES.dueWithFault(run, 3, 0, "hull", 0, 2, 2, 1, 1);
    }

    private static void hullFull() {
        EDGES.sentence("Promise 2: FULL; all else comes ahead of it");
        for (int kind = 0; kind < 3; kind++) {
            EDGES.refused(Edges.ALL_HULLS, FULL, 0, "hull", kind, 1, 1, 0, 1);
            EDGES.refused(Edges.ALL_HULLS, FULL, 0, "hull", kind, 1, 1, 4, 8);
        }
        EDGES.refused(Edges.ALL_HULLS, OUTSIDE, 0, "hull", 3, 1, 1, 0, 1);
        EDGES.refused(Edges.ALL_HULLS, OUTSIDE, 0, "hull", 0, 1, 3, 0, 1);
        EDGES.refused(Edges.ALL_HULLS, -12, Edges.CAST, "hull", 0, 1, 0, 0, 1);
        EDGES.refused(Edges.ALL_HULLS, -11, Edges.NULL, "hull", 0, 3, 0, 0, 1);
        EDGES.refused(Edges.ALL_HULLS, -14, Edges.SIZE, "hull", 0, 1, 1, 0, -1);
        EDGES.refused(Edges.ALL_HULLS, -13, Edges.INDEX, "hull", 0, 1, 1, 19, 1);
        EDGES.refused(Edges.ALL_HULLS, OUTSIDE, 0, "hull", 0, 1, 1, 0, 9);
        EDGES.refused(Edges.ALL_HULLS, OUTSIDE, 0, "hull", 0, 1, 1, 0, 0);
        EDGES.refused(Edges.ALL_HULLS, OUTSIDE, 0, "hull", 0, 2, 2, 0, 1);
    }

    private static void ofHullBounds() {
        EDGES.sentence("Promise 3: UNKNOWN; ahead of OUTSIDE");
        for (int h : new int[] {Edges.LEAST_INT, Edges.NONE, -1, 3, 16, Edges.GREATEST_INT}) {
            EDGES.kept(Edges.FLEET, UNKNOWN, "ofHull", h, 0);
            EDGES.kept(Edges.FLEET, UNKNOWN, "ofHull", h, 11);
        }
        EDGES.kept(Edges.ALL_HULLS, 0, "ofHull", 15, 10);
        EDGES.kept(Edges.ALL_HULLS, UNKNOWN, "ofHull", 16, 10);
        EDGES.sentence("Promise 3: OUTSIDE: what is not 0 .. 10");
        for (int what : new int[] {Edges.LEAST_INT, -1, 11, Edges.GREATEST_INT}) {
            EDGES.kept(Edges.FLEET, OUTSIDE, "ofHull", 0, what);
            EDGES.kept(Edges.FLEET, OUTSIDE, "ofHull", 2, what);
        }
        int[] all = {4, 5, 2, 11, 6, 6, 13, 1, 46, 111, 1};
        for (int what = 0; what < all.length; what++) {
            EDGES.kept(Edges.FLEET, all[what], "ofHull", 1, what);
        }
    }

    private static void stationBounds() {
        EDGES.sentence("Promise 4: UNKNOWN: HULL, STATION; ahead of OUTSIDE");
        for (int h : new int[] {Edges.LEAST_INT, -1, 3, Edges.GREATEST_INT}) {
            EDGES.kept(Edges.FLEET, UNKNOWN, "station", h, 0, 0);
            EDGES.kept(Edges.FLEET, UNKNOWN, "station", h, 0, 2);
        }
        int[] stations = {3, 4, 8};
        for (int h = 0; h < 3; h++) {
            for (int k : new int[] {Edges.LEAST_INT, -1, stations[h], 1 << 30, Edges.GREATEST_INT}) {
                EDGES.kept(Edges.FLEET, UNKNOWN, "station", h, k, 0);
                EDGES.kept(Edges.FLEET, UNKNOWN, "station", h, k, -1);
            }
        }
        EDGES.kept(Edges.FLEET, 3, "station", 0, 0, 0);
        EDGES.kept(Edges.FLEET, 9, "station", 0, 2, 1);
        EDGES.kept(Edges.FLEET, 1, "station", 1, 3, 0);
        EDGES.kept(Edges.FLEET, 1, "station", 2, 0, 0);
        EDGES.kept(Edges.FLEET, 7, "station", 2, 7, 1);
        EDGES.sentence("Promise 4: OUTSIDE: what is not 0, 1");
        for (int what : new int[] {Edges.LEAST_INT, -1, 2, Edges.GREATEST_INT}) {
            EDGES.kept(Edges.FLEET, OUTSIDE, "station", 0, 0, what);
            EDGES.kept(Edges.FLEET, OUTSIDE, "station", 2, 7, what);
        }
    }

    private static void buildBounds() {
        EDGES.sentence("Promise 5: UNKNOWN: HULL, STATION; ahead of OUTSIDE");
        for (int h : new int[] {Edges.LEAST_INT, -1, 3, Edges.GREATEST_INT}) {
            EDGES.kept(Edges.FLEET, UNKNOWN, "build", h, 0, 0, 1);
            EDGES.kept(Edges.FLEET, UNKNOWN, "build", h, 0, 2, 0);
        }
        int[] stations = {3, 4, 8};
        for (int h = 0; h < 3; h++) {
            for (int k : new int[] {Edges.LEAST_INT, -1, stations[h], 1 << 30, Edges.GREATEST_INT}) {
                EDGES.kept(Edges.FLEET, UNKNOWN, "build", h, k, 0, 1);
                EDGES.kept(Edges.FLEET, UNKNOWN, "build", h, k, 2, 10);
            }
        }
        EDGES.sentence("Promise 5: OUTSIDE: what is not 0, 1; v is not 1 .. 9");
        for (int what : new int[] {Edges.LEAST_INT, -1, 2, Edges.GREATEST_INT}) {
            EDGES.kept(Edges.FLEET, OUTSIDE, "build", 0, 0, what, 1);
            EDGES.kept(Edges.FLEET, OUTSIDE, "build", 2, 7, what, 9);
        }
        for (int v : new int[] {Edges.LEAST_INT, -1, 0, 10, 257, Edges.GREATEST_INT}) {
            EDGES.kept(Edges.FLEET, OUTSIDE, "build", 0, 0, 0, v);
            EDGES.kept(Edges.FLEET, OUTSIDE, "build", 2, 7, 1, v);
        }
    }

    private static void buildOnce() {
        EDGES.sentence("Promise 5: BREADTH, DEPTH of a STATION becomes v: what it was; no other one does");
        int[] parts = {1, 2, 3, 4, 5, 6, 7, 8, 9, 1, 2, 3, 4, 5, 6, 7};
        for (int place : new int[] {0, 1, 7, 14, 15}) {
            for (int v : new int[] {1, 9}) {
                Run run = new Run();
                Edges.FLEET.on(run);
                run.hull(2, parts);
                EDGES.due(run, parts[place], "build", 2, place / 2, place % 2, v);
                EDGES.due(run, v, "build", 2, place / 2, place % 2, v);
                for (int p = 0; p < 16; p++) {
                    EDGES.due(run, p == place ? v : parts[p], "station", 2, p / 2, p % 2);
                    EDGES.due(run, parts[p], "station", 3, p / 2, p % 2);
                }
            }
        }
        EDGES.sentence("build() of the row that a HULL came from: the SHEET keeps its own, the HULL its own");
        Run run = new Run();
        run.lay(0, 0, 4, 5);
        run.call("hull", 0, 0, 0, 0, 1);
        EDGES.due(run, 4, "build", 0, 0, 0, 9);
        EDGES.due(run, 4, "cell", 0, 0, 0);
        EDGES.due(run, 1, "put", 0, 1, 7);
        EDGES.due(run, 5, "station", 0, 0, 1);
        EDGES.due(run, 1, "lose", 0);
        EDGES.due(run, 9, "station", 0, 0, 0);
    }
}
