/** The boundaries that part 4 of the Terms and promises 14 to 19 name. */
public final class ShapeEdgesTest {
    private static final Edges EDGES = new Edges();
    private static final int UNKNOWN = Edges.UNKNOWN, OUTSIDE = Edges.OUTSIDE, STATE = Edges.STATE, NONE = Edges.NONE;
    private static final long LOST = Edges.LOST;
    private static final int SMOOTH = 0, TALL = 1, ENDS = 2, LEAST = 3, PLANK = 4, FREIGHT = 5;
    /** n, m, kind of which one is not as told, by one step and by as much as can be. */
    private static final int[][] BEYOND = {{0, 1, 0}, {5, 1, 0}, {1, 0, 0}, {1, 4, 0}, {1, 1, -1}, {1, 1, 3},
        {-1, 3, 0}, {4, -1, 0}, {Edges.LEAST_INT, 1, 0}, {Edges.GREATEST_INT, 1, 0}, {1, Edges.LEAST_INT, 0},
        {1, Edges.GREATEST_INT, 0}, {1, 1, Edges.LEAST_INT}, {1, 1, Edges.GREATEST_INT}};
    private static final int[] NO_LAWS = {Edges.LEAST_INT, -10, -8, -1, 4, Edges.GREATEST_INT};

    public static void main(String[] args) {
        allShapesOfEach();
        oneShapeLeft();
        shapesUnderEachNeed();
        theFirstAsARow();
        paidAndLost();
        bestUnknownOrOutside();
        bestState();
        shapeRefusals();
        shapePlaces();
        shapesRefusals();
        withoutRefusals();
        leftOut();
        mendRefusals();
        mendByV();
        mendTheLeastLoss();
        mendAllLaws();
        crowdRefusals();
        crowdByV();
        EDGES.end("ShapeEdgesTest");
    }

    private static int power(int m, int n) {
        int all = 1;
        for (int i = 0; i < n; i++) {
            all *= m;
        }
        return all;
    }

    private static int mostHeld(int n, int m, int kind) {
        return n * m * m + (kind == 0 ? 0 : n * m);
    }

    private static void allShapesOfEach() {
        EDGES.sentence("ALL SHAPES of n STATIONS (1 .. 4), BREADTH and DEPTH 1 .. m (1 .. 3) each, of a kind");
        for (int n = 1; n <= 4; n++) {
            for (int m = 1; m <= 3; m++) {
                for (int kind = 0; kind <= 2; kind++) {
                    Run run = new Run();
                    EDGES.due(run, power(m, 2 * n), "shapes", n, m, kind);
                    EDGES.due(run, mostHeld(n, m, kind), "best", n, m, kind, NONE, 3);
                    EDGES.due(run, 10 * mostHeld(n, m, kind) - 3 * n * m, "best", n, m, kind, NONE, 0);
                    EDGES.due(run, m, "shape", n, m, kind, NONE, 0);
                    EDGES.due(run, m, "shape", n, m, kind, NONE, 2 * n - 1);
                }
            }
        }
    }

    private static void oneShapeLeft() {
        EDGES.sentence("of which no NEED is BROKEN: one of them is left, then none");
        for (int n = 1; n <= 4; n++) {
            for (int m = 1; m <= 3; m++) {
                for (int kind = 0; kind <= 2; kind++) {
                    Run run = new Run();
                    run.law("B");
                    int most = mostHeld(n, m, kind);
                    run.call("need", LEAST, most);
                    EDGES.due(run, 1, "shapes", n, m, kind);
                    EDGES.due(run, most, "best", n, m, kind, 0, 3);
                    EDGES.due(run, m, "best", n, m, kind, 0, 1);
                    EDGES.due(run, 0, "mend", n, m, kind, m);
                    EDGES.due(run, 1, "crowd", n, m, kind, 0, m);
                    EDGES.due(run, m, "shape", n, m, kind, NONE, 0);
                    run.call("need", LEAST, most + 1);
                    EDGES.due(run, 0, "shapes", n, m, kind);
                    EDGES.due(run, LOST, "best", n, m, kind, 0, 3);
                    EDGES.due(run, STATE, "mend", n, m, kind, m);
                    EDGES.due(run, 0, "crowd", n, m, kind, 0, m);
                    EDGES.due(run, STATE, "shape", n, m, kind, NONE, 0);
                }
            }
        }
    }

    private static void count(int need, int v, int n, int m, int want) {
        Run run = new Run();
        run.call("need", need, v);
        EDGES.same("shapes(" + n + ", " + m + ", 0) while NEED " + need + " is " + v, run.call("shapes", n, m, 0), want);
    }

    private static void shapesUnderEachNeed() {
        EDGES.sentence("ALL SHAPES under each NEED, at the v that first leaves one out");
        count(SMOOTH, 2, 2, 3, 81);
        count(SMOOTH, 1, 2, 3, 63);
        count(SMOOTH, 0, 2, 3, 27);
        count(SMOOTH, 0, 1, 3, 9);
        count(TALL, 2, 1, 3, 9);
        count(TALL, 1, 1, 3, 8);
        count(TALL, 0, 1, 3, 6);
        count(TALL, 0, 4, 3, 1296);
        count(ENDS, 3, 3, 3, 729);
        count(ENDS, 2, 3, 3, 324);
        count(ENDS, 1, 3, 3, 81);
        count(ENDS, 1, 1, 3, 3);
        count(LEAST, 1, 1, 3, 9);
        count(LEAST, 2, 1, 3, 8);
        count(LEAST, 9, 1, 3, 1);
    }

    private static void dueRow(Run run, int n, int m, int l, int... row) {
        for (int k = 0; k < row.length; k++) {
            EDGES.due(run, row[k], "shape", n, m, 0, l, k);
        }
    }

    /** FREIGHT 1 and no COST: a shape is worth what it HOLDS, less what it OWES. */
    private static Run plain() {
        Run run = new Run();
        run.call("need", PLANK, 0);
        run.call("need", FREIGHT, 1);
        return run;
    }

    private static void theFirstAsARow() {
        EDGES.sentence("THE BEST: of the most WORTH; of several the first as a row");
        Run run = plain();
        run.law("B*D/4+B*D/4+B*D/4+B*D/4");
        dueRow(run, 1, 2, 0, 1, 2);
        EDGES.due(run, 2, "best", 1, 2, 0, 0, 0);
        Run all = plain();
        all.law("B*D");
        dueRow(all, 1, 3, 0, 1, 1);
        EDGES.due(all, 0, "best", 1, 3, 0, 0, 0);
        Run four = plain();
        four.law("A*9+S*9");
        dueRow(four, 2, 2, 0, 1, 1, 1, 1);
        four.call("need", LEAST, 3);
        dueRow(four, 2, 2, 0, 1, 1, 1, 2);
        four.call("need", LEAST, 4);
        dueRow(four, 2, 2, 0, 1, 1, 2, 2);
        four.call("need", LEAST, 6);
        dueRow(four, 2, 2, 0, 1, 2, 2, 2);
        dueRow(four, 2, 2, NONE, 2, 2, 2, 2);
    }

    private static void paidAndLost() {
        EDGES.sentence("PAID: what it OWES; LOSS: WORTH by none of THE BEST by none less that (by none, too)");
        Run run = new Run();
        run.law("D*D*9");
        run.law("D*5<0");
        run.law("99*99*99");
        int[][] want = {{17, 36, 28, 6}, {81, 0, 0, 9}, {81 - 970299, 970299, 0, 9}};
        for (int l = 0; l < 3; l++) {
            for (int what = 0; what < 4; what++) {
                EDGES.due(run, want[l][what], "best", 1, 3, 0, l, what);
            }
        }
        EDGES.sentence("Promise 14: PAID (1; by none 0), LOSS (2; by none 0)");
        for (int kind = 0; kind < 3; kind++) {
            EDGES.due(run, 0, "best", 2, 3, kind, NONE, 1);
            EDGES.due(run, 0, "best", 2, 3, kind, NONE, 2);
        }
    }

    private static void bestUnknownOrOutside() {
        EDGES.sentence("Promise 14: LOST: UNKNOWN: LAW (NONE: by none)");
        for (int l : NO_LAWS) {
            EDGES.kept(Edges.FLEET, LOST, "best", 1, 3, 0, l, 0);
        }
        EDGES.kept(Edges.FLEET, 81, "best", 1, 3, 0, NONE, 0);
        EDGES.kept(Edges.FLEET, 72, "best", 1, 3, 0, 0, 0);
        EDGES.kept(Edges.FLEET, 81 - 7, "best", 1, 3, 0, 3, 0);
        EDGES.kept(Edges.EMPTY, LOST, "best", 1, 1, 0, 0, 0);
        EDGES.kept(Edges.EMPTY, 7, "best", 1, 1, 0, NONE, 0);
        EDGES.sentence("Promise 14: LOST: OUTSIDE: n, m, kind, what");
        for (int[] b : BEYOND) {
            EDGES.kept(Edges.FLEET, LOST, "best", b[0], b[1], b[2], 0, 0);
            EDGES.kept(Edges.FLEET, LOST, "best", b[0], b[1], b[2], NONE, 0);
        }
        for (int what : new int[] {Edges.LEAST_INT, -1, 4, Edges.GREATEST_INT}) {
            EDGES.kept(Edges.FLEET, LOST, "best", 1, 3, 0, 0, what);
            EDGES.kept(Edges.FLEET, LOST, "best", 1, 3, 0, NONE, what);
        }
        int[] all = {72, 9, 0, 9};
        for (int what = 0; what < 4; what++) {
            EDGES.kept(Edges.FLEET, all[what], "best", 1, 3, 0, 0, what);
        }
    }

    private static void bestState() {
        EDGES.sentence("Promise 14: LOST: STATE: of ALL SHAPES there is none");
        for (int what = 0; what < 4; what++) {
            EDGES.kept(Edges.NO_SHAPES, LOST, "best", 1, 1, 0, NONE, what);
            EDGES.kept(Edges.NO_SHAPES, LOST, "best", 4, 3, 2, 0, what);
            EDGES.kept(Edges.FLEET, LOST, "best", 1, 1, 0, NONE, what);
        }
        EDGES.kept(Edges.FLEET, 12 * 2 - 3 * 6, "best", 2, 1, 0, NONE, 0);
    }

    private static void shapeRefusals() {
        EDGES.sentence("Promise 15: UNKNOWN: LAW; ahead of OUTSIDE, UNKNOWN: k, STATE");
        for (int l : NO_LAWS) {
            EDGES.kept(Edges.FLEET, UNKNOWN, "shape", 1, 3, 0, l, 0);
            EDGES.kept(Edges.FLEET, UNKNOWN, "shape", 0, 3, 0, l, 0);
            EDGES.kept(Edges.NO_SHAPES, UNKNOWN, "shape", 1, 3, 0, l, 0);
        }
        EDGES.kept(Edges.FLEET, 3, "shape", 1, 3, 0, NONE, 0);
        EDGES.kept(Edges.FLEET, 3, "shape", 1, 3, 0, 3, 0);
        EDGES.sentence("Promise 15: OUTSIDE: n, m, kind; ahead of UNKNOWN: k, STATE");
        for (int[] b : BEYOND) {
            EDGES.kept(Edges.FLEET, OUTSIDE, "shape", b[0], b[1], b[2], 0, 0);
            EDGES.kept(Edges.FLEET, OUTSIDE, "shape", b[0], b[1], b[2], NONE, -1);
            EDGES.kept(Edges.NO_SHAPES, OUTSIDE, "shape", b[0], b[1], b[2], NONE, 0);
        }
        EDGES.sentence("Promise 15: STATE: as best(); behind UNKNOWN: k");
        EDGES.kept(Edges.NO_SHAPES, STATE, "shape", 4, 3, 2, NONE, 7);
        EDGES.kept(Edges.NO_SHAPES, STATE, "shape", 4, 3, 2, 0, 0);
        EDGES.kept(Edges.NO_SHAPES, UNKNOWN, "shape", 4, 3, 2, 0, 8);
        EDGES.kept(Edges.NO_SHAPES, UNKNOWN, "shape", 4, 3, 2, 0, -1);
        EDGES.kept(Edges.FLEET, STATE, "shape", 1, 1, 0, 0, 0);
    }

    private static void shapePlaces() {
        EDGES.sentence("Promise 15: UNKNOWN: k is not 0 .. 2 n less 1");
        for (int n = 1; n <= 4; n++) {
            for (int k : new int[] {Edges.LEAST_INT, -1, 2 * n, 2 * n + 1, Edges.GREATEST_INT}) {
                EDGES.kept(Edges.FLEET, UNKNOWN, "shape", n, 2, 1, 0, k);
                EDGES.kept(Edges.FLEET, UNKNOWN, "shape", n, 2, 1, NONE, k);
            }
            for (int k = 0; k < 2 * n; k++) {
                EDGES.kept(Edges.FLEET, 2, "shape", n, 2, 1, NONE, k);
            }
        }
        Run run = new Run();
        run.law("M*99");
        int[] row = {2, 2, 2, 2, 1, 2, 2, 2};
        for (int k = 0; k < 8; k++) {
            EDGES.due(run, row[k], "shape", 4, 2, 0, 0, k);
        }
    }

    private static void shapesRefusals() {
        EDGES.sentence("Promise 16: OUTSIDE");
        for (int[] b : BEYOND) {
            EDGES.kept(Edges.FLEET, OUTSIDE, "shapes", b[0], b[1], b[2]);
            EDGES.kept(Edges.NO_SHAPES, OUTSIDE, "shapes", b[0], b[1], b[2]);
        }
        EDGES.sentence("Promise 16: How many ALL SHAPES are: 0, too");
        EDGES.kept(Edges.NO_SHAPES, 0, "shapes", 1, 1, 0);
        EDGES.kept(Edges.NO_SHAPES, 0, "shapes", 4, 3, 2);
        EDGES.kept(Edges.FLEET, 0, "shapes", 1, 1, 0);
        EDGES.kept(Edges.FLEET, 1, "shapes", 1, 1, 1);
        EDGES.kept(Edges.FLEET, 6561, "shapes", 4, 3, 2);
    }

    private static void withoutRefusals() {
        EDGES.sentence("Promise 17: LOST: UNKNOWN: LAW, word; NONE is no LAW here");
        for (int l : NO_LAWS) {
            EDGES.kept(Edges.FLEET, LOST, "without", 1, 3, 0, l, 0, 1);
        }
        EDGES.kept(Edges.FLEET, LOST, "without", 1, 3, 0, NONE, 0, 1);
        int[] words = {1, 2, 1, 4};
        for (int l = 0; l < 4; l++) {
            for (int w : new int[] {Edges.LEAST_INT, NONE, -1, words[l], Edges.GREATEST_INT}) {
                EDGES.kept(Edges.FLEET, LOST, "without", 1, 3, 0, l, w, 1);
            }
            EDGES.kept(Edges.FLEET, 0, "without", 1, 3, 0, l, words[l] - 1, 2);
        }
        EDGES.sentence("Promise 17: LOST: OUTSIDE: n, m, kind; what is not 1, 2");
        for (int[] b : BEYOND) {
            EDGES.kept(Edges.FLEET, LOST, "without", b[0], b[1], b[2], 1, 0, 1);
        }
        for (int what : new int[] {Edges.LEAST_INT, -1, 0, 3, Edges.GREATEST_INT}) {
            EDGES.kept(Edges.FLEET, LOST, "without", 1, 3, 0, 1, 0, what);
        }
        EDGES.kept(Edges.FLEET, 27, "without", 1, 3, 0, 1, 0, 1);
        EDGES.kept(Edges.FLEET, 0, "without", 1, 3, 0, 1, 0, 2);
        EDGES.sentence("Promise 17: LOST: STATE: as best()");
        for (int what = 1; what <= 2; what++) {
            EDGES.kept(Edges.NO_SHAPES, LOST, "without", 4, 3, 2, 1, 0, what);
            EDGES.kept(Edges.FLEET, LOST, "without", 1, 1, 0, 2, 0, what);
        }
    }

    private static void leftOut() {
        EDGES.sentence("LEFT OUT: a LAW without one of its words: the first, the last, each between");
        Run run = new Run();
        run.law("1+20+30+D*D*9");
        int[] paid = {20 + 30 + 36, 1 + 30 + 36, 1 + 20 + 36, 51};
        int[] loss = {28, 28, 28, 0};
        for (int w = 0; w < 4; w++) {
            EDGES.due(run, paid[w], "without", 1, 3, 0, 0, w, 1);
            EDGES.due(run, loss[w], "without", 1, 3, 0, 0, w, 2);
        }
        EDGES.due(run, 51 + 36, "best", 1, 3, 0, 0, 1);
        EDGES.sentence("LEFT OUT: (of one word: OWES 0)");
        run.law("D*D*9");
        EDGES.due(run, 36, "best", 1, 3, 0, 1, 1);
        EDGES.due(run, 28, "best", 1, 3, 0, 1, 2);
        EDGES.due(run, 0, "without", 1, 3, 0, 1, 0, 1);
        EDGES.due(run, 0, "without", 1, 3, 0, 1, 0, 2);
        EDGES.due(run, 1, "words", 1);
        EDGES.due(run, 4, "words", 0);
    }

    private static void mendRefusals() {
        EDGES.sentence("Promise 18: OUTSIDE: n, m, kind, v below 0; ahead of STATE");
        for (int[] b : BEYOND) {
            EDGES.kept(Edges.FLEET, OUTSIDE, "mend", b[0], b[1], b[2], 0);
            EDGES.kept(Edges.NO_SHAPES, OUTSIDE, "mend", b[0], b[1], b[2], 0);
        }
        for (int v : new int[] {Edges.LEAST_INT, NONE, -1}) {
            EDGES.kept(Edges.FLEET, OUTSIDE, "mend", 1, 3, 0, v);
            EDGES.kept(Edges.NO_SHAPES, OUTSIDE, "mend", 1, 3, 0, v);
            EDGES.kept(Edges.EMPTY, OUTSIDE, "mend", 1, 3, 0, v);
        }
        EDGES.sentence("Promise 18: STATE: as best()");
        EDGES.kept(Edges.NO_SHAPES, STATE, "mend", 4, 3, 2, 0);
        EDGES.kept(Edges.NO_SHAPES, STATE, "mend", 1, 1, 0, Edges.GREATEST_INT);
        EDGES.kept(Edges.FLEET, STATE, "mend", 1, 1, 0, 0);
        Edges.Setup noShapesNoLaws = run -> run.call("need", LEAST, 999);
        EDGES.kept(noShapesNoLaws, STATE, "mend", 1, 1, 0, 0);
        EDGES.sentence("Promise 18: NONE: there is none");
        EDGES.kept(Edges.EMPTY, NONE, "mend", 1, 1, 0, 0);
        EDGES.kept(Edges.FLEET, 0, "mend", 1, 3, 0, 0);
        EDGES.kept(Edges.FLEET, NONE, "mend", 1, 3, 0, 61);
        EDGES.kept(Edges.FLEET, NONE, "mend", 1, 3, 0, Edges.GREATEST_INT);
    }

    private static void mendByV() {
        EDGES.sentence("MENDED: those by which PAID is v or more; of several the least number");
        Run run = new Run();
        run.law("5");
        run.law("6");
        run.law("06");
        run.law("7");
        int[] want = {0, 0, 0, 0, 0, 0, 1, 3, NONE, NONE};
        for (int v = 0; v < want.length; v++) {
            EDGES.due(run, want[v], "mend", 2, 2, 1, v);
        }
        Run nothing = new Run();
        nothing.law("D<0");
        EDGES.due(nothing, 0, "mend", 1, 1, 0, 0);
        EDGES.due(nothing, NONE, "mend", 1, 1, 0, 1);
    }

    private static void mendTheLeastLoss() {
        EDGES.sentence("MENDED: that with the least LOSS");
        Run run = new Run();
        run.law("D*D*9");
        run.law("5");
        EDGES.due(run, 1, "mend", 1, 3, 0, 0);
        EDGES.due(run, 1, "mend", 1, 3, 0, 5);
        EDGES.due(run, 0, "mend", 1, 3, 0, 6);
        EDGES.due(run, 0, "mend", 1, 3, 0, 36);
        EDGES.due(run, NONE, "mend", 1, 3, 0, 37);
        run.law("D*D*9");
        EDGES.due(run, 0, "mend", 1, 3, 0, 6);
        run.law("B*15+B*15");
        EDGES.due(run, 0, "mend", 1, 3, 0, 30);
        run.law("36");
        EDGES.due(run, 1, "mend", 1, 3, 0, 5);
        EDGES.due(run, 4, "mend", 1, 3, 0, 6);
        EDGES.due(run, 4, "mend", 1, 3, 0, 36);
        EDGES.due(run, NONE, "mend", 1, 3, 0, 37);
    }

    private static void mendAllLaws() {
        EDGES.sentence("MENDED: of all LAWS told (not NONE): the first of 8, the last of 8");
        Run run = new Run();
        for (int l = 0; l < 8; l++) {
            EDGES.due(run, l == 0 ? NONE : 0, "mend", 1, 2, 0, 0);
            run.law("" + (10 + l));
        }
        EDGES.due(run, 0, "mend", 1, 2, 0, 10);
        EDGES.due(run, 1, "mend", 1, 2, 0, 11);
        EDGES.due(run, 6, "mend", 1, 2, 0, 16);
        EDGES.due(run, 7, "mend", 1, 2, 0, 17);
        EDGES.due(run, NONE, "mend", 1, 2, 0, 18);
        EDGES.same("a ninth law", run.law("99"), Edges.FULL);
        EDGES.due(run, NONE, "mend", 1, 2, 0, 18);
    }

    private static void crowdRefusals() {
        EDGES.sentence("Promise 19: UNKNOWN: LAW; ahead of OUTSIDE; NONE is no LAW here");
        for (int l : NO_LAWS) {
            EDGES.kept(Edges.FLEET, UNKNOWN, "crowd", 1, 3, 0, l, 60);
            EDGES.kept(Edges.FLEET, UNKNOWN, "crowd", 0, 3, 0, l, 60);
        }
        EDGES.kept(Edges.FLEET, UNKNOWN, "crowd", 1, 3, 0, NONE, 0);
        EDGES.kept(Edges.EMPTY, UNKNOWN, "crowd", 1, 3, 0, 0, 0);
        EDGES.sentence("Promise 19: OUTSIDE: n, m, kind");
        for (int[] b : BEYOND) {
            EDGES.kept(Edges.FLEET, OUTSIDE, "crowd", b[0], b[1], b[2], 2, 60);
            EDGES.kept(Edges.NO_SHAPES, OUTSIDE, "crowd", b[0], b[1], b[2], 2, 60);
        }
        EDGES.sentence("Promise 19: where of ALL SHAPES there is none, none OWES v");
        EDGES.kept(Edges.NO_SHAPES, 0, "crowd", 4, 3, 2, 2, 60);
        EDGES.kept(Edges.FLEET, 0, "crowd", 1, 1, 0, 2, 60);
    }

    private static void crowdByV() {
        EDGES.sentence("CROWD: how many of ALL SHAPES OWE just v");
        for (int v : new int[] {Edges.LEAST_INT, -1, 0, 59, 61, Edges.GREATEST_INT}) {
            EDGES.kept(Edges.FLEET, 0, "crowd", 1, 3, 0, 2, v);
        }
        EDGES.kept(Edges.FLEET, 8, "crowd", 1, 3, 0, 2, 60);
        Run run = new Run();
        run.law("B+D");
        run.law("B*D<4");
        int[] sums = {0, 0, 1, 2, 3, 2, 1, 0};
        int[] capped = {0, 1, 2, 2, 4, 0, 0, 0};
        for (int v = 0; v < sums.length; v++) {
            EDGES.due(run, sums[v], "crowd", 1, 3, 0, 0, v);
            EDGES.due(run, capped[v], "crowd", 1, 3, 0, 1, v);
        }
        run.law("L");
        EDGES.due(run, 0, "crowd", 4, 3, 1, 2, 3);
        EDGES.due(run, 6561, "crowd", 4, 3, 1, 2, 4);
        EDGES.due(run, 0, "crowd", 4, 3, 1, 2, 5);
    }
}
