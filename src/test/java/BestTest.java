/** Promises 14 to 23: best, shape, shapes, without, mend, crowd, step, trim, route, paid. */
public final class BestTest {
    private static final Check CHECK = new Check();
    private static final int NONE = Check.NONE;
    private static final long LOST = Check.LOST;

    public static void main(String[] args) {
        bestOfOneStation();
        bestOfKinds();
        theFirstOfTheBest();
        bestRefusals();
        countsOfShapes();
        leftOut();
        mended();
        crowds();
        noShapesAtAll();
        steps();
        stepsOfEqualWorth();
        stepsUnderNeeds();
        trims();
        routes();
        paidIn();
        CHECK.end("BestTest");
    }

    private static long[] best(KeelTolls x, int n, int m, int kind, int l) {
        long[] all = new long[4];
        for (int what = 0; what < 4; what++) {
            all[what] = x.best(n, m, kind, l, what);
        }
        return all;
    }

    private static long[] row(KeelTolls x, int n, int m, int kind, int l) {
        long[] all = new long[2 * n];
        for (int k = 0; k < all.length; k++) {
            all[k] = x.shape(n, m, kind, l, k);
        }
        return all;
    }

    private static void bestOfOneStation() {
        KeelTolls x = new KeelTolls();
        Check.law(x, "B*30");
        Check.law(x, "D*D*9");
        CHECK.dueAll("best by none", best(x, 1, 3, 0, NONE), 81, 0, 0, 9);
        CHECK.dueAll("best by B*30", best(x, 1, 3, 0, 0), -7, 30, 58, 3);
        CHECK.dueAll("its row", row(x, 1, 3, 0, 0), 1, 3);
        CHECK.dueAll("best by D*D*9", best(x, 1, 3, 0, 1), 17, 36, 28, 6);
        CHECK.dueAll("its row", row(x, 1, 3, 0, 1), 3, 2);
        CHECK.dueAll("of m 1", best(x, 1, 1, 0, 1), -2, 9, 0, 1);
        x.need(1, 0);
        CHECK.dueAll("best by B*30, none too tall", best(x, 1, 3, 0, 0), -9, 90, 0, 9);
    }

    private static void bestOfKinds() {
        KeelTolls x = new KeelTolls();
        Check.law(x, "L*50+K*3");
        CHECK.dueAll("HULL of 3", best(x, 3, 3, 0, 0), 243 - 150, 150, 0, 27);
        CHECK.dueAll("DECKED of 3", best(x, 3, 3, 1, 0), 333 - 153, 153, 0, 36);
        CHECK.dueAll("RAKED of 3", best(x, 3, 3, 2, 0), 333 - 53, 53, 0, 36);
        CHECK.dueAll("RAKED of 4", best(x, 4, 3, 2, NONE), 444, 0, 0, 48);
        CHECK.dueAll("its row", row(x, 4, 3, 2, NONE), 3, 3, 3, 3, 3, 3, 3, 3);
        Check.law(x, "M*99");
        CHECK.dueAll("by the middle one alone", row(x, 3, 2, 0, 1), 2, 2, 1, 2, 2, 2);
        CHECK.dueAll("what comes of it", best(x, 3, 2, 0, 1), 83 - 99, 99, 102 - 83, 10);
    }

    private static void theFirstOfTheBest() {
        KeelTolls x = new KeelTolls();
        Check.law(x, "B*D");
        Check.law(x, "S");
        x.need(4, 0);
        x.need(5, 1);
        CHECK.dueAll("all are worth 0", best(x, 1, 3, 0, 0), 0, 1, 8, 1);
        CHECK.dueAll("the first of them", row(x, 1, 3, 0, 0), 1, 1);
        CHECK.dueAll("of a breadth of 1 each depth is worth as much", row(x, 2, 1, 0, 1), 1, 1, 1, 1);
        x.need(2, 1);
        CHECK.dueAll("the first of three", row(x, 1, 3, 0, 1), 1, 1);
    }

    private static void bestRefusals() {
        KeelTolls x = new KeelTolls();
        Check.law(x, "B");
        int[][] outside = {{0, 1, 0}, {5, 1, 0}, {1, 0, 0}, {1, 4, 0}, {1, 1, -1}, {1, 1, 3}};
        for (int[] o : outside) {
            String call = o[0] + ", " + o[1] + ", " + o[2];
            CHECK.due("best(" + call + ")", x.best(o[0], o[1], o[2], 0, 0), LOST);
            CHECK.due("shape(" + call + ")", x.shape(o[0], o[1], o[2], 0, -1), -2);
            CHECK.due("shape(" + call + "), no LAW", x.shape(o[0], o[1], o[2], 1, 0), -1);
            CHECK.due("shapes(" + call + ")", x.shapes(o[0], o[1], o[2]), -2);
            CHECK.due("without(" + call + ")", x.without(o[0], o[1], o[2], 0, 0, 1), LOST);
            CHECK.due("mend(" + call + ")", x.mend(o[0], o[1], o[2], 0), -2);
            CHECK.due("crowd(" + call + ")", x.crowd(o[0], o[1], o[2], 0, 1), -2);
            CHECK.due("crowd(" + call + "), no LAW", x.crowd(o[0], o[1], o[2], 1, 1), -1);
        }
        CHECK.due("best, no LAW", x.best(1, 1, 0, 1, 0), LOST);
        CHECK.due("best, what 4", x.best(1, 1, 0, 0, 4), LOST);
        CHECK.due("best, what -1", x.best(1, 1, 0, 0, -1), LOST);
        CHECK.due("shape, k 2", x.shape(1, 1, 0, 0, 2), -1);
        CHECK.due("shape, k -1", x.shape(1, 1, 0, 0, -1), -1);
        CHECK.due("shape, k 7 of 4", x.shape(4, 1, 0, 0, 7), 1);
        CHECK.due("shape, k 8 of 4", x.shape(4, 1, 0, 0, 8), -1);
        CHECK.due("without NONE", x.without(1, 1, 0, NONE, 0, 1), LOST);
        CHECK.due("without, word 1", x.without(1, 1, 0, 0, 1, 1), LOST);
        CHECK.due("without, word -1", x.without(1, 1, 0, 0, -1, 1), LOST);
        CHECK.due("without, what 0", x.without(1, 1, 0, 0, 0, 0), LOST);
        CHECK.due("without, what 3", x.without(1, 1, 0, 0, 0, 3), LOST);
        CHECK.due("mend, v below 0", x.mend(1, 1, 0, -1), -2);
        CHECK.due("crowd by NONE", x.crowd(1, 1, 0, NONE, 0), -1);
    }

    private static void countsOfShapes() {
        KeelTolls x = new KeelTolls();
        CHECK.due("shapes(1, 1, 0)", x.shapes(1, 1, 0), 1);
        CHECK.due("shapes(4, 3, 2)", x.shapes(4, 3, 2), 6561);
        CHECK.due("shapes(3, 2, 1)", x.shapes(3, 2, 1), 64);
        x.need(3, 5);
        CHECK.due("LEAST 5, HULL", x.shapes(1, 3, 0), 3);
        CHECK.due("LEAST 5, DECKED", x.shapes(1, 3, 1), 5);
        CHECK.due("LEAST 5, RAKED", x.shapes(1, 3, 2), 5);
        x.need(3, 0);
        x.need(1, 0);
        CHECK.due("TALL 0", x.shapes(1, 3, 0), 6);
        x.need(1, 8);
        x.need(0, 0);
        CHECK.due("SMOOTH 0", x.shapes(2, 3, 0), 27);
        x.need(0, 8);
        x.need(2, 1);
        CHECK.due("ENDS 1", x.shapes(3, 2, 0), 16);
    }

    private static void leftOut() {
        KeelTolls x = new KeelTolls();
        Check.law(x, "B*30+D*D*9");
        Check.law(x, "60");
        CHECK.due("without the first, PAID", x.without(1, 3, 0, 0, 0, 1), 36);
        CHECK.due("without the first, LOSS", x.without(1, 3, 0, 0, 0, 2), 28);
        CHECK.due("without the second, PAID", x.without(1, 3, 0, 0, 1, 1), 30);
        CHECK.due("without the second, LOSS", x.without(1, 3, 0, 0, 1, 2), 58);
        CHECK.due("without its one word, PAID", x.without(1, 3, 0, 1, 0, 1), 0);
        CHECK.due("without its one word, LOSS", x.without(1, 3, 0, 1, 0, 2), 0);
        CHECK.due("the LAW has it still", x.words(0), 2);
    }

    private static void mended() {
        KeelTolls x = new KeelTolls();
        CHECK.due("mend, no LAW", x.mend(1, 3, 0, 0), NONE);
        Check.law(x, "5");
        Check.law(x, "D*D*9");
        Check.law(x, "B*30");
        CHECK.due("mend 0", x.mend(1, 3, 0, 0), 0);
        CHECK.due("mend 5", x.mend(1, 3, 0, 5), 0);
        CHECK.due("mend 6", x.mend(1, 3, 0, 6), 1);
        CHECK.due("mend 36", x.mend(1, 3, 0, 36), 1);
        CHECK.due("mend 37", x.mend(1, 3, 0, 37), NONE);
        Check.law(x, "6");
        CHECK.due("mend 5, two without LOSS", x.mend(1, 3, 0, 5), 0);
        CHECK.due("mend 6, one without LOSS", x.mend(1, 3, 0, 6), 3);
        for (int l = 4; l < 8; l++) {
            Check.law(x, (3 + l) + "");
        }
        CHECK.due("mend 10, the last of 8", x.mend(1, 3, 0, 10), 7);
        CHECK.due("mend the greatest", x.mend(1, 3, 0, Integer.MAX_VALUE), NONE);
    }

    private static void crowds() {
        KeelTolls x = new KeelTolls();
        Check.law(x, "B+D");
        Check.law(x, "L*9");
        long[] sums = new long[6];
        for (int v = 1; v <= 6; v++) {
            sums[v - 1] = x.crowd(1, 3, 0, 0, v);
        }
        CHECK.dueAll("crowd", sums, 0, 1, 2, 3, 2, 1);
        x.need(1, 0);
        CHECK.due("crowd of those not too tall", x.crowd(1, 3, 0, 0, 4), 2);
        CHECK.due("crowd of v below 0", x.crowd(1, 3, 0, 0, -1), 0);
        x.need(1, 8);
        CHECK.due("crowd of all RAKED", x.crowd(4, 3, 2, 1, 18), 6561);
        CHECK.due("crowd of no RAKED", x.crowd(4, 3, 2, 1, 36), 0);
    }

    private static void noShapesAtAll() {
        KeelTolls x = new KeelTolls();
        CHECK.due("shape of m 1", x.shape(1, 1, 0, NONE, 0), 1);
        x.need(3, 999);
        CHECK.due("mend, no shapes, no LAW", x.mend(1, 1, 0, 0), -3);
        Check.law(x, "B");
        CHECK.due("shapes", x.shapes(4, 3, 2), 0);
        CHECK.due("best by none", x.best(1, 1, 0, NONE, 0), LOST);
        CHECK.due("best by a LAW", x.best(1, 1, 0, 0, 0), LOST);
        CHECK.due("shape by none", x.shape(1, 1, 0, NONE, 0), -3);
        CHECK.due("shape by a LAW", x.shape(1, 1, 0, 0, 0), -3);
        CHECK.due("shape, k 2", x.shape(1, 1, 0, 0, 2), -1);
        CHECK.due("without", x.without(1, 1, 0, 0, 0, 1), LOST);
        CHECK.due("mend", x.mend(1, 1, 0, 0), -3);
        CHECK.due("mend, v below 0", x.mend(1, 1, 0, -1), -2);
        CHECK.due("crowd", x.crowd(1, 1, 0, 0, 1), 0);
        x.need(3, 0);
        CHECK.due("shape again", x.shape(1, 1, 0, 0, 0), 1);
    }

    private static void steps() {
        KeelTolls x = new KeelTolls();
        Check.hull(x, 0, 1, 1);
        Check.hull(x, 0, 9, 9);
        Check.hull(x, 0, 1, 1, 5, 9, 9, 5);
        Check.law(x, "B*5");
        CHECK.due("step by none", x.step(0, NONE), 1);
        CHECK.due("step by B*5", x.step(0, 0), 11);
        CHECK.due("step of the greatest", x.step(1, NONE), NONE);
        CHECK.due("step of the second's breadth", x.step(2, NONE), 101);
        x.build(2, 1, 1, 1);
        CHECK.due("step of the third's depth", x.step(2, NONE), 211);
        CHECK.due("nothing is changed by it", x.station(2, 2, 1), 5);
        x.need(4, 9);
        x.need(5, 1);
        x.build(0, 0, 0, 2);
        x.build(0, 0, 1, 2);
        CHECK.due("step to less depth", x.step(0, NONE), 10);
        x.build(0, 0, 1, 1);
        CHECK.due("step to less breadth", x.step(0, NONE), 0);
        Check.hull(x, 2, 9, 9, 9, 9, 9, 9, 9, 9, 9, 9, 9, 9, 9, 9, 9, 8);
        x.need(4, 1);
        CHECK.due("step of the eighth's depth", x.step(3, NONE), 711);
        CHECK.due("step(4, NONE)", x.step(4, NONE), -1);
        CHECK.due("step(-1, 0)", x.step(-1, 0), -1);
        CHECK.due("step(0, 1)", x.step(0, 1), -1);
    }

    private static void stepsOfEqualWorth() {
        KeelTolls x = new KeelTolls();
        x.need(4, 0);
        x.need(5, 1);
        Check.hull(x, 0, 2, 2);
        CHECK.due("BREADTH ahead of DEPTH", x.step(0, NONE), 1);
        Check.hull(x, 0, 2, 1, 2, 2, 2, 2);
        x.build(1, 0, 1, 2);
        CHECK.due("the first STATION", x.step(1, NONE), 1);
        Check.hull(x, 0, 2, 9);
        Check.law(x, "B*20<38");
        CHECK.due("less ahead of more", x.step(2, 0), 0);
        Check.hull(x, 0, 3, 4);
        Check.law(x, "B*D");
        CHECK.due("none is worth more", x.step(3, 1), NONE);
    }

    private static void stepsUnderNeeds() {
        KeelTolls x = new KeelTolls();
        Check.hull(x, 1, 3, 3);
        CHECK.due("step of a DECKED one", x.step(0, NONE), 1);
        x.need(2, 3);
        CHECK.due("step by ENDS 3", x.step(0, NONE), 11);
        x.need(1, 0);
        CHECK.due("step by TALL 0", x.step(0, NONE), NONE);
        Check.hull(x, 0, 3, 9);
        x.need(2, 9);
        CHECK.due("step of one that stays too tall", x.step(1, NONE), NONE);
        x.need(1, 5);
        CHECK.due("step of one that is too tall no more", x.step(1, NONE), 1);
        Check.law(x, "L");
        Check.hull(x, 2, 3, 3, 3, 3);
        CHECK.due("step of a RAKED one", x.step(2, 0), 1);
    }

    private static void trims() {
        KeelTolls x = new KeelTolls();
        Check.hull(x, 0, 3, 4, 5, 2, 2, 6, 1, 1);
        Check.hull(x, 2, 3, 4, 5, 2, 2, 6);
        Check.law(x, "M*H");
        Check.law(x, "M");
        Check.law(x, "A+S");
        CHECK.due("trim(0, 0, 0)", x.trim(0, 0, 0), 10);
        CHECK.due("trim(0, 0, 1)", x.trim(0, 0, 1), 1);
        CHECK.due("trim(0, 1, 0)", x.trim(0, 1, 0), 2);
        CHECK.due("trim(0, 1, 1)", x.trim(0, 1, 1), 0);
        CHECK.due("trim(0, 2, 0)", x.trim(0, 2, 0), 24);
        CHECK.due("trim(0, 2, 1)", x.trim(0, 2, 1), 0);
        CHECK.due("trim(1, 0, 0)", x.trim(1, 0, 0), 10);
        CHECK.due("trim(1, 0, 1)", x.trim(1, 0, 1), 0);
        CHECK.due("nothing is changed by it", x.station(0, 0, 0), 3);
        CHECK.due("trim(2, 0, 0)", x.trim(2, 0, 2), -1);
        CHECK.due("trim(0, 3, 0)", x.trim(0, 3, 2), -1);
        CHECK.due("trim(0, NONE, 0)", x.trim(0, NONE, 0), -1);
        CHECK.due("trim(0, 0, 2)", x.trim(0, 0, 2), -2);
        CHECK.due("trim(0, 0, -1)", x.trim(0, 0, -1), -2);
    }

    private static void routes() {
        KeelTolls x = new KeelTolls();
        Check.law(x, "B*B*4");
        CHECK.due("route, no HULL", x.route(99, NONE), NONE);
        Check.hull(x, 0, 1, 1);
        Check.hull(x, 0, 3, 3);
        Check.hull(x, 0, 3, 3);
        CHECK.due("route(1, NONE), worth 0", x.route(1, NONE), NONE);
        CHECK.due("route(2, NONE)", x.route(2, NONE), 1);
        CHECK.due("route(5, 0), worth 0", x.route(5, 0), NONE);
        CHECK.due("route(6, 0)", x.route(6, 0), 1);
        x.build(1, 0, 0, 2);
        CHECK.due("route(6, 0), another one", x.route(6, 0), 1);
        CHECK.due("route(99, 0)", x.route(99, 0), 2);
        x.need(2, 2);
        CHECK.due("route(99, 0), by ENDS 2", x.route(99, 0), 1);
        x.need(2, 1);
        CHECK.due("route(99, 0), by ENDS 1", x.route(99, 0), 0);
        x.need(1, 0);
        x.need(3, 2);
        CHECK.due("route(99, 0), all broken", x.route(99, 0), NONE);
        CHECK.due("route(0, 1)", x.route(0, 1), -1);
        CHECK.due("route(0, 0)", x.route(0, 0), -2);
        CHECK.due("route(100, NONE)", x.route(100, NONE), -2);
        CHECK.due("FREIGHT is as it was", x.need(5, 10), 10);
    }

    private static void paidIn() {
        KeelTolls x = new KeelTolls();
        Check.law(x, "B*B*B");
        CHECK.due("paid, no HULL", x.paid(99, 0), 0);
        x.need(4, 0);
        Check.hull(x, 0, 1, 1);
        Check.hull(x, 0, 3, 3);
        long[] sums = new long[5];
        for (int f = 1; f <= 5; f++) {
            sums[f - 1] = x.paid(f, 0);
        }
        CHECK.dueAll("paid", sums, 0, 1, 2, 29, 56);
        CHECK.due("paid(99, 0)", x.paid(99, 0), 2 + 96 * 27);
        x.need(2, 2);
        CHECK.due("paid(99, 0), by ENDS 2", x.paid(99, 0), 98);
        x.build(0, 0, 1, 2);
        CHECK.due("paid(1, 0), by the least FREIGHT", x.paid(1, 0), 1);
        CHECK.due("paid(0, NONE)", x.paid(0, NONE), -1);
        CHECK.due("paid(0, 1)", x.paid(0, 1), -1);
        CHECK.due("paid(0, 0)", x.paid(0, 0), -2);
        CHECK.due("paid(100, 0)", x.paid(100, 0), -2);
    }
}
