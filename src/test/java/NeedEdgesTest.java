/** The boundaries that part 3 of the Terms and promises 10 to 13 name. */
public final class NeedEdgesTest {
    private static final Edges EDGES = new Edges();
    private static final int UNKNOWN = Edges.UNKNOWN, OUTSIDE = Edges.OUTSIDE, NONE = Edges.NONE;
    private static final int SMOOTH = 0, TALL = 1, ENDS = 2, LEAST = 3, PLANK = 4, FREIGHT = 5;
    private static final int[] LEASTS = {0, 0, 1, 0, 0, 1};
    private static final int[] MOSTS = {8, 8, 9, 999, 9, 99};
    private static final int[] GREATEST = {9, 9, 9, 9, 9, 9, 9, 9, 9, 9, 9, 9, 9, 9, 9, 9};

    public static void main(String[] args) {
        needsAtFirst();
        boundsOfNeeds();
        needUnknown();
        smoothByV();
        smoothStations();
        tallByV();
        endsByV();
        leastByV();
        noneIsBrokenAtFirst();
        theFirstOfAll();
        brokenBounds();
        worthByPlankAndFreight();
        worthBounds();
        riskOfOneStation();
        riskInLeastTerms();
        riskBounds();
        EDGES.end("NeedEdgesTest");
    }

    private static void needsAtFirst() {
        EDGES.sentence("NEEDS (v; at first), PLANK 1 at first, FREIGHT 10 at first");
        int[] atFirst = {8, 8, 9, 0, 1, 10};
        for (int what = 0; what < 6; what++) {
            EDGES.due(new Run(), atFirst[what], "need", what, MOSTS[what]);
        }
    }

    private static void boundsOfNeeds() {
        EDGES.sentence("Promise 10: OUTSIDE: SMOOTH 0 .. 8, TALL 0 .. 8, ENDS 1 .. 9, LEAST 0 .. 999, PLANK 0 .. 9,"
            + " FREIGHT 1 .. 99; becomes v: what it was");
        for (int what = 0; what < 6; what++) {
            int[] beyond = {Edges.LEAST_INT, -1, LEASTS[what] - 1, MOSTS[what] + 1, Edges.GREATEST_INT};
            for (int v : beyond) {
                EDGES.kept(Edges.FLEET, OUTSIDE, "need", what, v);
            }
            Run run = new Run();
            int was = (int) run.call("need", what, LEASTS[what]);
            EDGES.due(run, LEASTS[what], "need", what, LEASTS[what] + 1);
            EDGES.due(run, LEASTS[what] + 1, "need", what, MOSTS[what] - 1);
            EDGES.due(run, MOSTS[what] - 1, "need", what, MOSTS[what]);
            EDGES.due(run, OUTSIDE, "need", what, MOSTS[what] + 1);
            EDGES.due(run, MOSTS[what], "need", what, was);
            EDGES.due(run, was, "need", what, was);
        }
        EDGES.sentence("Promise 10: one NEED becomes v, and no other");
        int[] atFirst = {8, 8, 9, 0, 1, 10};
        for (int what = 0; what < 6; what++) {
            Run run = new Run();
            run.call("need", what, 5);
            for (int other = 0; other < 6; other++) {
                EDGES.due(run, other == what ? 5 : atFirst[other], "need", other, 1);
            }
        }
    }

    private static void needUnknown() {
        EDGES.sentence("Promise 10: UNKNOWN: what; ahead of OUTSIDE");
        for (int what : new int[] {Edges.LEAST_INT, NONE, -1, 6, Edges.GREATEST_INT}) {
            EDGES.kept(Edges.FLEET, UNKNOWN, "need", what, 1);
            EDGES.kept(Edges.FLEET, UNKNOWN, "need", what, -1);
            EDGES.kept(Edges.FLEET, UNKNOWN, "need", what, 1000);
        }
    }

    /** What is broken of a hull while one need is v. */
    private static void broken(int need, int v, int[] row, int first, int station) {
        Run run = new Run();
        run.hull(0, row);
        run.call("need", need, v);
        EDGES.due(run, first, "broken", 0, 0);
        EDGES.due(run, station, "broken", 0, 1);
    }

    private static void smoothByV() {
        EDGES.sentence("SMOOTH: BREADTHS of STATIONS beside one another differ by v at most");
        for (int v = 0; v <= 8; v++) {
            broken(SMOOTH, v, new int[] {1, 1, 1 + v, 1}, NONE, NONE);
            broken(SMOOTH, v, new int[] {1 + v, 1, 1, 1}, NONE, NONE);
            broken(SMOOTH, v, new int[] {9 - v, 1, 9, 1}, NONE, NONE);
            if (v < 8) {
                broken(SMOOTH, v, new int[] {1, 1, 2 + v, 1}, 0, 0);
                broken(SMOOTH, v, new int[] {2 + v, 1, 1, 1}, 0, 0);
                broken(SMOOTH, v, new int[] {8 - v, 1, 9, 1}, 0, 0);
            }
        }
        broken(SMOOTH, 0, new int[] {9, 1}, NONE, NONE);
        broken(SMOOTH, 0, new int[] {5, 1, 5, 9}, NONE, NONE);
    }

    private static void smoothStations() {
        EDGES.sentence("at which STATION first (of SMOOTH the lesser of both)");
        for (int k = 0; k < 7; k++) {
            int[] row = new int[16];
            for (int p = 0; p < 16; p++) {
                row[p] = p % 2 == 0 && p / 2 > k ? 4 : 2;
            }
            broken(SMOOTH, 1, row, 0, k);
            broken(SMOOTH, 2, row, NONE, NONE);
        }
        broken(SMOOTH, 1, new int[] {2, 1, 2, 1, 4, 1, 9, 1}, 0, 1);
        EDGES.sentence("SMOOTH: no others than those beside one another");
        broken(SMOOTH, 1, new int[] {1, 1, 2, 1, 3, 1, 4, 1, 5, 1, 6, 1, 7, 1, 8, 1}, NONE, NONE);
        broken(SMOOTH, 1, new int[] {8, 1, 7, 1, 6, 1, 5, 1, 4, 1, 3, 1, 2, 1, 1, 1}, NONE, NONE);
    }

    private static void tallByV() {
        EDGES.sentence("TALL: no DEPTH is more than its BREADTH and v");
        for (int v = 0; v <= 8; v++) {
            broken(TALL, v, new int[] {1, 1 + v}, NONE, NONE);
            broken(TALL, v, new int[] {9 - v, 9}, NONE, NONE);
            broken(TALL, v, new int[] {9, 1}, NONE, NONE);
            if (v < 8) {
                broken(TALL, v, new int[] {1, 2 + v}, 1, 0);
                broken(TALL, v, new int[] {8 - v, 9}, 1, 0);
            }
        }
        for (int k = 0; k < 8; k++) {
            int[] row = {3, 4, 3, 4, 3, 4, 3, 4, 3, 4, 3, 4, 3, 4, 3, 4};
            row[2 * k + 1] = 5;
            broken(TALL, 1, row, 1, k);
            row[15] = 9;
            broken(TALL, 1, row, 1, k);
        }
    }

    private static void endsByV() {
        EDGES.sentence("ENDS: the first and the last BREADTH are v at most");
        for (int v = 1; v <= 9; v++) {
            broken(ENDS, v, new int[] {v, 9, 9, 9, v, 9}, NONE, NONE);
            broken(ENDS, v, new int[] {v, 9}, NONE, NONE);
            if (v < 9) {
                broken(ENDS, v, new int[] {v + 1, 1}, 2, 0);
                broken(ENDS, v, new int[] {v + 1, 1, 1, 1, v, 1}, 2, 0);
                broken(ENDS, v, new int[] {v, 1, 1, 1, v + 1, 1}, 2, 2);
                broken(ENDS, v, new int[] {v + 1, 1, 1, 1, v + 1, 1}, 2, 0);
                broken(ENDS, v, new int[] {v, 1, v + 1, 1}, 2, 1);
                broken(ENDS, v, new int[] {v, 1, v, 1, v, 1, v, 1, v, 1, v, 1, v, 1, v + 1, 1}, 2, 7);
            }
        }
    }

    private static void holdsAtLeast(int kind, int[] row, int v, boolean enough) {
        Run run = new Run();
        run.hull(kind, row);
        run.call("need", LEAST, v);
        EDGES.due(run, enough ? NONE : 3, "broken", 0, 0);
        EDGES.due(run, enough ? NONE : 0, "broken", 0, 1);
    }

    private static void leastByV() {
        EDGES.sentence("LEAST: it HOLDS no less than v; at which STATION (of LEAST 0)");
        int[][] rows = {{1, 1}, {3, 4, 5, 2}, GREATEST};
        int[][] holds = {{1, 2, 2}, {22, 30, 30}, {648, 720, 720}};
        for (int r = 0; r < rows.length; r++) {
            for (int kind = 0; kind < 3; kind++) {
                holdsAtLeast(kind, rows[r], 0, true);
                holdsAtLeast(kind, rows[r], holds[r][kind] - 1, true);
                holdsAtLeast(kind, rows[r], holds[r][kind], true);
                holdsAtLeast(kind, rows[r], holds[r][kind] + 1, false);
                holdsAtLeast(kind, rows[r], 999, false);
            }
        }
    }

    private static void noneIsBrokenAtFirst() {
        EDGES.sentence("NEEDS at first: there is no HULL of which one is BROKEN");
        int[][] rows = {{1, 1}, {1, 9}, {9, 1}, {1, 9, 9, 1, 1, 9}, {9, 9, 1, 1, 9, 9}, GREATEST};
        for (int kind = 0; kind < 3; kind++) {
            for (int[] row : rows) {
                Run run = new Run();
                run.hull(kind, row);
                EDGES.due(run, NONE, "broken", 0, 0);
                EDGES.due(run, NONE, "broken", 0, 1);
            }
        }
    }

    private static void theFirstOfAll() {
        EDGES.sentence("BROKEN: the first NEED, and at which STATION first");
        Run run = new Run();
        run.hull(0, 2, 2, 2, 9, 4, 1, 3, 3);
        int[] tight = {1, 3, 2, 999};
        for (int what = 0; what < 4; what++) {
            run.call("need", what, tight[what]);
        }
        int[] station = {1, 1, 3, 0};
        for (int what = 0; what < 4; what++) {
            EDGES.due(run, what, "broken", 0, 0);
            EDGES.due(run, station[what], "broken", 0, 1);
            run.call("need", what, what == 3 ? 0 : MOSTS[what]);
        }
        EDGES.due(run, NONE, "broken", 0, 0);
        EDGES.due(run, NONE, "broken", 0, 1);
    }

    private static void brokenBounds() {
        EDGES.sentence("Promise 11: UNKNOWN; ahead of OUTSIDE");
        for (int h : new int[] {Edges.LEAST_INT, NONE, -1, 3, Edges.GREATEST_INT}) {
            EDGES.kept(Edges.FLEET, UNKNOWN, "broken", h, 0);
            EDGES.kept(Edges.FLEET, UNKNOWN, "broken", h, 2);
        }
        EDGES.kept(Edges.EMPTY, UNKNOWN, "broken", 0, 0);
        EDGES.sentence("Promise 11: OUTSIDE: what is not 0, 1; also where none is BROKEN");
        for (int what : new int[] {Edges.LEAST_INT, -1, 2, Edges.GREATEST_INT}) {
            EDGES.kept(Edges.FLEET, OUTSIDE, "broken", 0, what);
            EDGES.kept(Edges.FLEET, OUTSIDE, "broken", 1, what);
        }
        EDGES.kept(Edges.FLEET, 1, "broken", 0, 0);
        EDGES.kept(Edges.FLEET, 2, "broken", 0, 1);
        EDGES.kept(Edges.FLEET, NONE, "broken", 1, 0);
        EDGES.kept(Edges.FLEET, NONE, "broken", 1, 1);
        EDGES.kept(Edges.NO_SHAPES, 3, "broken", 2, 0);
        EDGES.kept(Edges.NO_SHAPES, 0, "broken", 2, 1);
    }

    private static void worthByPlankAndFreight() {
        EDGES.sentence("PLANK (0 .. 9): COST: that times the sum of all BREADTHS and twice all DEPTHS");
        for (int plank : new int[] {0, 1, 9}) {
            Run run = new Run();
            run.hull(0, 1, 1);
            run.hull(2, GREATEST);
            run.call("need", PLANK, plank);
            EDGES.due(run, 3 * plank, "ofHull", 0, 9);
            EDGES.due(run, 216 * plank, "ofHull", 1, 9);
            EDGES.due(run, 10 - 3 * plank, "worth", 0, NONE);
            EDGES.due(run, 7200 - 216 * plank, "worth", 1, NONE);
        }
        EDGES.sentence("FREIGHT (1 .. 99): WORTH by a LAW: FREIGHT times HOLDS, less OWES, less COST; by none: without OWES");
        for (int freight : new int[] {1, 2, 99}) {
            Run run = new Run();
            run.hull(0, 1, 1);
            run.hull(2, GREATEST);
            run.law("99*99*99+99*99*99+99*99*99+99*99*99");
            run.law("L<0");
            run.call("need", FREIGHT, freight);
            for (int h = 0; h < 2; h++) {
                int free = h == 0 ? freight - 3 : 720 * freight - 216;
                EDGES.due(run, free, "worth", h, NONE);
                EDGES.due(run, free, "worth", h, 1);
                EDGES.due(run, free - 3881196, "worth", h, 0);
            }
        }
        EDGES.sentence("WORTH of a HULL of which a NEED is BROKEN is as it is of others");
        Run run = new Run();
        run.hull(0, 1, 9);
        run.call("need", TALL, 0);
        EDGES.due(run, 1, "broken", 0, 0);
        EDGES.due(run, 90 - 19, "worth", 0, NONE);
    }

    private static void worthBounds() {
        EDGES.sentence("Promise 12: UNKNOWN (LOST): HULL, LAW; NONE: by none");
        for (int beyond : new int[] {Edges.LEAST_INT, -10, -8, -1, Edges.GREATEST_INT}) {
            EDGES.kept(Edges.FLEET, Edges.LOST, "worth", beyond, 0);
            EDGES.kept(Edges.FLEET, Edges.LOST, "worth", beyond, NONE);
            EDGES.kept(Edges.FLEET, Edges.LOST, "worth", 0, beyond);
        }
        EDGES.kept(Edges.FLEET, Edges.LOST, "worth", NONE, 0);
        EDGES.kept(Edges.FLEET, Edges.LOST, "worth", 3, 0);
        EDGES.kept(Edges.FLEET, Edges.LOST, "worth", 3, NONE);
        EDGES.kept(Edges.FLEET, Edges.LOST, "worth", 0, 4);
        EDGES.kept(Edges.EMPTY, Edges.LOST, "worth", 0, NONE);
        EDGES.kept(Edges.FLEET, 12 * 31 - 3 * 39, "worth", 0, NONE);
        EDGES.kept(Edges.FLEET, 12 * 31 - 3 * 39 - 30, "worth", 0, 0);
        EDGES.kept(Edges.FLEET, 12 * 31 - 3 * 39 - 27, "worth", 0, 3);
    }

    private static void risk(int[] row, int upper, int lower) {
        Run run = new Run();
        run.hull(0, row);
        EDGES.due(run, upper, "risk", 0, 0);
        EDGES.due(run, lower, "risk", 0, 1);
    }

    private static void riskOfOneStation() {
        EDGES.sentence("RISK: the sum of what each DEPTH is more than its BREADTH (0 at least)");
        risk(new int[] {5, 1}, 0, 1);
        risk(new int[] {5, 4}, 0, 1);
        risk(new int[] {5, 5}, 0, 1);
        risk(new int[] {5, 6}, 1, 9);
        risk(new int[] {1, 9}, 8, 9);
        risk(new int[] {9, 1, 1, 2}, 1, 18);
        risk(new int[] {1, 2, 9, 1}, 1, 18);
    }

    private static void riskInLeastTerms() {
        EDGES.sentence("Shares are told as upper and lower number (above 0) in least terms");
        risk(new int[] {1, 4}, 1, 3);
        risk(new int[] {1, 7}, 2, 3);
        risk(new int[] {1, 9, 1, 9}, 8, 9);
        risk(new int[] {1, 2, 1, 2}, 1, 9);
        risk(new int[] {1, 9, 2, 3}, 1, 2);
        risk(new int[] {1, 9, 1, 9, 1, 9, 1, 9, 1, 9, 1, 9, 1, 9, 1, 9}, 8, 9);
        risk(new int[] {1, 9, 1, 9, 1, 9, 1, 9, 1, 9, 1, 9, 1, 9, 1, 8}, 7, 8);
        risk(new int[] {1, 1, 1, 1, 1, 1, 1, 1, 1, 1, 1, 1, 1, 1, 1, 2}, 1, 72);
        risk(new int[] {1, 2, 1, 1, 1, 1, 1, 1, 1, 1, 1, 1, 1, 1, 1, 2}, 1, 36);
        risk(GREATEST, 0, 1);
    }

    private static void riskBounds() {
        EDGES.sentence("Promise 13: LOST: UNKNOWN; OUTSIDE: which is not 0, 1");
        for (int h : new int[] {Edges.LEAST_INT, NONE, -1, 3, Edges.GREATEST_INT}) {
            EDGES.kept(Edges.FLEET, Edges.LOST, "risk", h, 0);
            EDGES.kept(Edges.FLEET, Edges.LOST, "risk", h, 1);
        }
        for (int which : new int[] {Edges.LEAST_INT, -1, 2, Edges.GREATEST_INT}) {
            EDGES.kept(Edges.FLEET, Edges.LOST, "risk", 0, which);
        }
        EDGES.kept(Edges.EMPTY, Edges.LOST, "risk", 0, 0);
        EDGES.kept(Edges.FLEET, 1, "risk", 0, 0);
        EDGES.kept(Edges.FLEET, 3, "risk", 0, 1);
    }
}
