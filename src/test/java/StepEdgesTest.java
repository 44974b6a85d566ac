/** The boundaries that promises 20 to 23 name: step, trim, route, paid. */
public final class StepEdgesTest {
    private static final Edges EDGES = new Edges();
    private static final int UNKNOWN = Edges.UNKNOWN, OUTSIDE = Edges.OUTSIDE, NONE = Edges.NONE;
    private static final int SMOOTH = 0, TALL = 1, ENDS = 2, LEAST = 3, PLANK = 4, FREIGHT = 5;
    private static final int[] BEYOND = {Edges.LEAST_INT, -10, -8, -1, Edges.GREATEST_INT};
    private static final int[] GREATEST = {9, 9, 9, 9, 9, 9, 9, 9, 9, 9, 9, 9, 9, 9, 9, 9};

    public static void main(String[] args) {
        stepWithinOneToNine();
        stepOfEachPart();
        stepsOfEqualWorth();
        stepWorthMore();
        stepUnderNeeds();
        stepOfABrokenHull();
        stepRefusals();
        trimByStations();
        trimRefusals();
        routeAboveNothing();
        routeOfSeveral();
        routeUnderNeeds();
        routeRefusals();
        paidByFreights();
        paidRefusals();
        EDGES.end("StepEdgesTest");
    }

    /** FREIGHT 1 and a dear PLANK: less is worth more. */
    private static void dear(Run run) {
        run.call("need", PLANK, 9);
        run.call("need", FREIGHT, 1);
    }

    /** FREIGHT 1 and no COST. */
    private static void plain(Run run) {
        run.call("need", PLANK, 0);
        run.call("need", FREIGHT, 1);
    }

    private static void step(Run run, int want, int... row) {
        int h = (int) run.hull(0, row);
        EDGES.due(run, want, "step", h, NONE);
        for (int p = 0; p < row.length; p++) {
            EDGES.due(run, row[p], "station", h, p / 2, p % 2);
        }
    }

    private static void stepWithinOneToNine() {
        EDGES.sentence("STEP: one more or less (1 .. 9 still)");
        Run more = new Run();
        step(more, NONE, 9, 9);
        step(more, 1, 8, 9);
        step(more, 11, 9, 8);
        step(more, 1, 8, 8);
        step(more, NONE, GREATEST);
        Run less = new Run();
        dear(less);
        step(less, NONE, 1, 1);
        step(less, 0, 2, 1);
        step(less, 10, 1, 2);
        step(less, NONE, 1, 1, 1, 1);
        step(less, 110, 1, 1, 1, 2);
        step(less, 100, 1, 1, 2, 1);
    }

    private static void stepOfEachPart() {
        EDGES.sentence("Promise 20: 100 times the STATION, 10 for a DEPTH, 1 for one more: of the first STATION to the eighth");
        for (int k = 0; k < 8; k++) {
            for (int depth = 0; depth < 2; depth++) {
                Run more = new Run();
                int[] row = GREATEST.clone();
                row[2 * k + depth] = 8;
                step(more, 100 * k + 10 * depth + 1, row);
                Run less = new Run();
                dear(less);
                int[] ones = {1, 1, 1, 1, 1, 1, 1, 1, 1, 1, 1, 1, 1, 1, 1, 1};
                ones[2 * k + depth] = 2;
                step(less, 100 * k + 10 * depth, ones);
            }
        }
    }

    private static void stepsOfEqualWorth() {
        EDGES.sentence("STEP: of several by STATIONS, BREADTH ahead of DEPTH, less ahead of more");
        Run run = new Run();
        plain(run);
        step(run, 1, 1, 1);
        step(run, 1, 1, 1, 1, 1);
        step(run, 11, 2, 1, 1, 2);
        step(run, 11, 2, 1, 2, 1);
        step(run, 101, 1, 1, 1, 2, 1, 2);
        run.law("B*20<38");
        run.law("D*20<38");
        EDGES.due(run, 0, "step", (int) run.hull(0, 2, 9), 0);
        EDGES.due(run, 10, "step", (int) run.hull(0, 9, 2), 1);
    }

    private static void stepWorthMore() {
        EDGES.sentence("Promise 20: NONE: no other HULL is worth more than it is");
        Run run = new Run();
        plain(run);
        run.law("B*D");
        run.law("S");
        EDGES.due(run, NONE, "step", (int) run.hull(0, 5, 5), 0);
        EDGES.due(run, NONE, "step", (int) run.hull(0, 9, 9), NONE);
        EDGES.due(run, 1, "step", 0, 1);
        run.law("B*9");
        EDGES.due(run, 11, "step", 0, 2);
        EDGES.due(run, NONE, "step", 1, 2);
        run.law("B*9+1");
        EDGES.due(run, NONE, "step", 1, 3);
        run.law("B*10");
        EDGES.due(run, 0, "step", 1, 4);
    }

    private static void stepUnderNeeds() {
        EDGES.sentence("STEP: of which no NEED is BROKEN: at the v that first leaves one out");
        Run smooth = new Run();
        smooth.call("need", SMOOTH, 1);
        step(smooth, 1, 3, 3, 3, 3);
        smooth.call("need", SMOOTH, 0);
        step(smooth, 11, 3, 3, 3, 3);
        Run ends = new Run();
        ends.call("need", ENDS, 4);
        step(ends, 1, 3, 3);
        ends.call("need", ENDS, 3);
        step(ends, 11, 3, 3);
        ends.call("need", TALL, 1);
        step(ends, 11, 3, 3);
        ends.call("need", TALL, 0);
        step(ends, NONE, 3, 3);
        Run least = new Run();
        dear(least);
        least.call("need", LEAST, 2);
        step(least, 10, 2, 2);
        least.call("need", LEAST, 3);
        step(least, NONE, 2, 2);
    }

    private static void stepOfABrokenHull() {
        EDGES.sentence("STEP of a HULL of which a NEED is BROKEN: it is weighed as it is");
        Run run = new Run();
        run.call("need", TALL, 7);
        step(run, 1, 1, 9);
        run.call("need", ENDS, 1);
        step(run, NONE, 1, 9);
        dear(run);
        step(run, 10, 1, 9);
    }

    private static void stepRefusals() {
        EDGES.sentence("Promise 20: UNKNOWN: HULL, LAW (NONE: by none)");
        for (int beyond : BEYOND) {
            EDGES.kept(Edges.FLEET, UNKNOWN, "step", beyond, 0);
            EDGES.kept(Edges.FLEET, UNKNOWN, "step", beyond, NONE);
            EDGES.kept(Edges.FLEET, UNKNOWN, "step", 0, beyond);
        }
        EDGES.kept(Edges.FLEET, UNKNOWN, "step", 3, 0);
        EDGES.kept(Edges.FLEET, UNKNOWN, "step", NONE, 0);
        EDGES.kept(Edges.FLEET, UNKNOWN, "step", 0, 4);
        EDGES.kept(Edges.EMPTY, UNKNOWN, "step", 0, NONE);
        EDGES.kept(Edges.FLEET, 201, "step", 0, NONE);
        EDGES.kept(Edges.FLEET, 201, "step", 0, 0);
        EDGES.kept(Edges.FLEET, 301, "step", 2, NONE);
        EDGES.kept(Edges.FLEET, 301, "step", 2, 0);
        EDGES.kept(Edges.ALL_HULLS, UNKNOWN, "step", 16, NONE);
    }

    private static void trim(int[] row, String text, int owed, int less) {
        Run run = new Run();
        run.hull(1, row);
        run.law(text);
        EDGES.due(run, owed, "trim", 0, 0, 0);
        EDGES.due(run, less, "trim", 0, 0, 1);
        for (int p = 0; p < row.length; p++) {
            EDGES.due(run, row[p], "station", 0, p / 2, p % 2);
        }
    }

    private static void trimByStations() {
        EDGES.sentence("TRIM: the least that a HULL OWES as it is, or with its STATIONS in the other order");
        trim(new int[] {4, 2}, "M*H", 8, 0);
        trim(new int[] {5, 1, 4, 1}, "M", 4, 0);
        trim(new int[] {4, 1, 4, 1}, "M", 4, 0);
        trim(new int[] {4, 1, 5, 1}, "M", 4, 1);
        trim(new int[] {2, 9, 3, 5}, "M*H", 15, 0);
        trim(new int[] {3, 5, 2, 9}, "M*H", 15, 1);
        trim(new int[] {1, 1, 5, 5, 2, 2}, "M*H", 25, 0);
        trim(new int[] {1, 1, 2, 2, 3, 3, 4, 4, 5, 5, 6, 6, 7, 7, 8, 8}, "M+H", 8, 1);
        trim(new int[] {8, 8, 7, 7, 6, 6, 5, 5, 4, 4, 3, 3, 2, 2, 1, 1}, "M+H", 8, 0);
        trim(new int[] {1, 1, 2, 2, 3, 3, 4, 4, 5, 5, 6, 6, 7, 7}, "M+H", 8, 0);
        trim(new int[] {1, 2, 9, 8, 3, 4, 5, 6}, "L+B+A+D", 4 + 9 + 18 + 8, 0);
    }

    private static void trimRefusals() {
        EDGES.sentence("Promise 21: UNKNOWN: HULL, LAW; ahead of OUTSIDE; NONE is no LAW here");
        for (int beyond : BEYOND) {
            EDGES.kept(Edges.FLEET, UNKNOWN, "trim", beyond, 0, 0);
            EDGES.kept(Edges.FLEET, UNKNOWN, "trim", 0, beyond, 0);
            EDGES.kept(Edges.FLEET, UNKNOWN, "trim", beyond, 0, 2);
            EDGES.kept(Edges.FLEET, UNKNOWN, "trim", 0, beyond, 2);
        }
        EDGES.kept(Edges.FLEET, UNKNOWN, "trim", 3, 0, 0);
        EDGES.kept(Edges.FLEET, UNKNOWN, "trim", 0, 4, -1);
        EDGES.kept(Edges.FLEET, UNKNOWN, "trim", 0, NONE, 0);
        EDGES.sentence("Promise 21: OUTSIDE: what is not 0, 1");
        for (int what : new int[] {Edges.LEAST_INT, -1, 2, Edges.GREATEST_INT}) {
            EDGES.kept(Edges.FLEET, OUTSIDE, "trim", 0, 0, what);
            EDGES.kept(Edges.FLEET, OUTSIDE, "trim", 2, 3, what);
        }
        EDGES.kept(Edges.FLEET, 4 * 5 * 2, "trim", 1, 0, 0);
        EDGES.kept(Edges.FLEET, 1, "trim", 1, 0, 1);
    }

    private static void routeAboveNothing() {
        EDGES.sentence("A ROUTE: the one of the most WORTH, if that is above 0");
        Run run = new Run();
        EDGES.due(run, NONE, "route", 99, NONE);
        run.hull(0, 1, 1);
        run.law("1");
        for (int f = 1; f <= 6; f++) {
            EDGES.due(run, f > 3 ? 0 : NONE, "route", f, NONE);
            EDGES.due(run, f > 4 ? 0 : NONE, "route", f, 0);
        }
        EDGES.due(run, 0, "route", 99, 0);
        EDGES.sentence("A ROUTE of FREIGHT f: whatever FREIGHT is else");
        run.call("need", FREIGHT, 99);
        EDGES.due(run, NONE, "route", 3, NONE);
        run.call("need", FREIGHT, 1);
        EDGES.due(run, 0, "route", 4, NONE);
        EDGES.due(run, 1, "need", FREIGHT, 10);
    }

    private static void routeOfSeveral() {
        EDGES.sentence("A ROUTE: of several the least number");
        Run run = new Run();
        run.lay(0, 0, 2, 2, 3, 3);
        for (int h = 0; h < 15; h++) {
            EDGES.due(run, h, "hull", 0, 0, 0, 0, 1);
            EDGES.due(run, 0, "route", 50, NONE);
        }
        EDGES.due(run, 15, "hull", 0, 0, 0, 2, 1);
        EDGES.due(run, 15, "route", 50, NONE);
        EDGES.due(run, 2, "build", 7, 0, 0, 3);
        EDGES.due(run, 2, "build", 7, 0, 1, 3);
        EDGES.due(run, 7, "route", 50, NONE);
        EDGES.due(run, 3, "build", 15, 0, 1, 4);
        EDGES.due(run, 15, "route", 50, NONE);
    }

    private static void routeUnderNeeds() {
        EDGES.sentence("A ROUTE: of the HULLS told, of which no NEED is BROKEN");
        Run run = new Run();
        run.hull(0, 2, 2);
        run.hull(0, 3, 3);
        run.hull(0, 4, 4);
        int[] want = {NONE, 0, 1, 2, 2};
        for (int v = 1; v <= 5; v++) {
            run.call("need", ENDS, v);
            EDGES.due(run, want[v - 1], "route", 99, NONE);
        }
        run.call("need", LEAST, 16);
        EDGES.due(run, 2, "route", 99, NONE);
        run.call("need", LEAST, 17);
        EDGES.due(run, NONE, "route", 99, NONE);
    }

    private static void routeRefusals() {
        EDGES.sentence("Promise 22: UNKNOWN: LAW; ahead of OUTSIDE");
        for (int l : BEYOND) {
            EDGES.kept(Edges.FLEET, UNKNOWN, "route", 2, l);
            EDGES.kept(Edges.FLEET, UNKNOWN, "route", 0, l);
            EDGES.kept(Edges.FLEET, UNKNOWN, "route", 100, l);
        }
        EDGES.kept(Edges.FLEET, UNKNOWN, "route", 2, 4);
        EDGES.kept(Edges.EMPTY, UNKNOWN, "route", 2, 0);
        EDGES.sentence("Promise 22: OUTSIDE: f is not 1 .. 99");
        for (int f : new int[] {Edges.LEAST_INT, -1, 0, 100, Edges.GREATEST_INT}) {
            EDGES.kept(Edges.FLEET, OUTSIDE, "route", f, 0);
            EDGES.kept(Edges.FLEET, OUTSIDE, "route", f, NONE);
            EDGES.kept(Edges.EMPTY, OUTSIDE, "route", f, NONE);
        }
        EDGES.kept(Edges.FLEET, NONE, "route", 1, NONE);
        EDGES.kept(Edges.FLEET, 2, "route", 2, NONE);
        EDGES.kept(Edges.FLEET, 2, "route", 99, NONE);
        EDGES.kept(Edges.FLEET, 2, "route", 99, 3);
        EDGES.kept(Edges.NO_SHAPES, NONE, "route", 99, NONE);
        EDGES.kept(Edges.EMPTY, NONE, "route", 1, NONE);
    }

    private static void paidByFreights() {
        EDGES.sentence("Promise 23: a ROUTE of each FREIGHT 1 .. f: the sum of what the HULLS that go OWE");
        Run run = new Run();
        run.hull(1, GREATEST);
        run.law("99*99*7");
        EDGES.due(run, 0, "paid", 1, 0);
        EDGES.due(run, 0, "paid", 95, 0);
        EDGES.due(run, 68607, "paid", 96, 0);
        EDGES.due(run, 2 * 68607, "paid", 97, 0);
        EDGES.due(run, 4 * 68607, "paid", 99, 0);
        run.law("7*7<0");
        EDGES.due(run, 0, "paid", 99, 1);
        run.law("2");
        EDGES.due(run, 2, "paid", 1, 2);
        EDGES.due(run, 198, "paid", 99, 2);
        EDGES.sentence("Promise 23: not of the same HULL, where another one goes");
        Run two = new Run();
        two.call("need", PLANK, 0);
        two.hull(0, 1, 1);
        two.hull(0, 3, 3);
        two.law("B*B*B");
        int[] sums = {0, 1, 2, 29, 56};
        for (int f = 1; f <= 5; f++) {
            EDGES.due(two, sums[f - 1], "paid", f, 0);
        }
    }

    private static void paidRefusals() {
        EDGES.sentence("Promise 23: UNKNOWN (NONE is no LAW here); ahead of OUTSIDE");
        for (int l : BEYOND) {
            EDGES.kept(Edges.FLEET, UNKNOWN, "paid", 2, l);
            EDGES.kept(Edges.FLEET, UNKNOWN, "paid", 0, l);
        }
        EDGES.kept(Edges.FLEET, UNKNOWN, "paid", 2, NONE);
        EDGES.kept(Edges.FLEET, UNKNOWN, "paid", 100, NONE);
        EDGES.kept(Edges.FLEET, UNKNOWN, "paid", 2, 4);
        EDGES.kept(Edges.EMPTY, UNKNOWN, "paid", 2, 0);
        EDGES.sentence("Promise 23: OUTSIDE: f is not 1 .. 99");
        for (int f : new int[] {Edges.LEAST_INT, -1, 0, 100, Edges.GREATEST_INT}) {
            EDGES.kept(Edges.FLEET, OUTSIDE, "paid", f, 0);
        }
        EDGES.kept(Edges.FLEET, 0, "paid", 1, 2);
        EDGES.kept(Edges.FLEET, 60, "paid", 2, 2);
        EDGES.kept(Edges.FLEET, 98 * 60, "paid", 99, 2);
        EDGES.kept(Edges.NO_SHAPES, 0, "paid", 99, 2);
        Edges.Setup noHulls = run -> run.law("5");
        EDGES.kept(noHulls, 0, "paid", 99, 0);
    }
}
