/** Promises 10 to 13: need, broken, worth, risk. */
public final class NeedsTest {
    private static final Check CHECK = new Check();

    public static void main(String[] args) {
        needsAndTheirBounds();
        smooth();
        tall();
        ends();
        least();
        theFirstOfSeveral();
        worths();
        risks();
        CHECK.end("NeedsTest");
    }

    private static void needsAndTheirBounds() {
        int[] least = {0, 0, 1, 0, 0, 1};
        int[] most = {8, 8, 9, 999, 9, 99};
        int[] atFirst = {8, 8, 9, 0, 1, 10};
        KeelTolls x = new KeelTolls();
        for (int what = 0; what < 6; what++) {
            CHECK.due("need(" + what + ") below", x.need(what, least[what] - 1), -2);
            CHECK.due("need(" + what + ") above", x.need(what, most[what] + 1), -2);
            CHECK.due("need(" + what + ") the least", x.need(what, least[what]), atFirst[what]);
            CHECK.due("need(" + what + ") the most", x.need(what, most[what]), least[what]);
            CHECK.due("need(" + what + ") again", x.need(what, most[what]), most[what]);
        }
        CHECK.due("need(6, 1)", x.need(6, 1), -1);
        CHECK.due("need(-1, -1)", x.need(-1, -1), -1);
    }

    private static void dueBroken(KeelTolls x, int h, int need, int station) {
        CHECK.due("broken(" + h + ", 0)", x.broken(h, 0), need);
        CHECK.due("broken(" + h + ", 1)", x.broken(h, 1), station);
    }

    private static void smooth() {
        KeelTolls x = new KeelTolls();
        Check.hull(x, 0, 1, 1, 3, 1, 6, 1, 1, 1);
        dueBroken(x, 0, Check.NONE, Check.NONE);
        x.need(0, 5);
        dueBroken(x, 0, Check.NONE, Check.NONE);
        x.need(0, 4);
        dueBroken(x, 0, 0, 2);
        x.need(0, 2);
        dueBroken(x, 0, 0, 1);
        x.need(0, 0);
        dueBroken(x, 0, 0, 0);
        Check.hull(x, 0, 4, 1, 4, 9);
        dueBroken(x, 1, Check.NONE, Check.NONE);
        CHECK.due("broken(2, 2)", x.broken(2, 2), -1);
        CHECK.due("broken(-1, 0)", x.broken(-1, 0), -1);
        CHECK.due("broken(0, 2)", x.broken(0, 2), -2);
        CHECK.due("broken(0, -1)", x.broken(0, -1), -2);
    }

    private static void tall() {
        KeelTolls x = new KeelTolls();
        Check.hull(x, 0, 2, 4, 9, 9, 1, 6);
        x.need(1, 5);
        dueBroken(x, 0, Check.NONE, Check.NONE);
        x.need(1, 4);
        dueBroken(x, 0, 1, 2);
        x.need(1, 1);
        dueBroken(x, 0, 1, 0);
    }

    private static void ends() {
        KeelTolls x = new KeelTolls();
        Check.hull(x, 0, 4, 1, 9, 1, 6, 1);
        x.need(2, 6);
        dueBroken(x, 0, Check.NONE, Check.NONE);
        x.need(2, 5);
        dueBroken(x, 0, 2, 2);
        x.need(2, 3);
        dueBroken(x, 0, 2, 0);
        Check.hull(x, 0, 4, 1);
        dueBroken(x, 1, 2, 0);
        Check.hull(x, 0, 3, 1, 9, 9, 9, 9, 9, 9, 4, 1);
        dueBroken(x, 2, 2, 4);
        x.build(2, 4, 0, 3);
        dueBroken(x, 2, Check.NONE, Check.NONE);
    }

    private static void least() {
        KeelTolls x = new KeelTolls();
        Check.hull(x, 0, 4, 2, 1, 3);
        Check.hull(x, 1, 4, 2, 1, 3);
        x.need(3, 11);
        dueBroken(x, 0, Check.NONE, Check.NONE);
        x.need(3, 12);
        dueBroken(x, 0, 3, 0);
        dueBroken(x, 1, Check.NONE, Check.NONE);
        x.need(3, 16);
        dueBroken(x, 1, Check.NONE, Check.NONE);
        x.need(3, 17);
        dueBroken(x, 1, 3, 0);
    }

    private static void theFirstOfSeveral() {
        KeelTolls x = new KeelTolls();
        Check.hull(x, 0, 3, 9, 3, 9, 1, 1);
        x.need(3, 999);
        dueBroken(x, 0, 3, 0);
        x.need(2, 2);
        dueBroken(x, 0, 2, 0);
        x.need(1, 0);
        dueBroken(x, 0, 1, 0);
        x.need(0, 1);
        dueBroken(x, 0, 0, 1);
    }

    private static void worths() {
        KeelTolls x = new KeelTolls();
        Check.hull(x, 0, 3, 4, 5, 2);
        Check.hull(x, 1, 3, 4, 5, 2);
        Check.law(x, "99*B*D");
        CHECK.due("worth(0, NONE)", x.worth(0, Check.NONE), 220 - 20);
        CHECK.due("worth(1, NONE)", x.worth(1, Check.NONE), 300 - 20);
        CHECK.due("worth(0, 0)", x.worth(0, 0), 200 - 1980);
        x.need(5, 99);
        x.need(4, 3);
        CHECK.due("worth(0, 0), changed", x.worth(0, 0), 99 * 22 - 60 - 1980);
        x.need(0, 0);
        CHECK.due("worth of one that is broken", x.worth(0, Check.NONE), 99 * 22 - 60);
        CHECK.due("worth(2, NONE)", x.worth(2, Check.NONE), Check.LOST);
        CHECK.due("worth(-1, 0)", x.worth(-1, 0), Check.LOST);
        CHECK.due("worth(0, 1)", x.worth(0, 1), Check.LOST);
        CHECK.due("worth(0, -1)", x.worth(0, -1), Check.LOST);
    }

    private static void risks() {
        KeelTolls x = new KeelTolls();
        Check.hull(x, 0, 1, 5, 9, 2, 3, 5, 4, 4);
        CHECK.due("risk 6 by 36, upper", x.risk(0, 0), 1);
        CHECK.due("risk 6 by 36, lower", x.risk(0, 1), 6);
        Check.hull(x, 1, 1, 5, 2, 3);
        CHECK.due("risk 5 by 18, upper", x.risk(1, 0), 5);
        CHECK.due("risk 5 by 18, lower", x.risk(1, 1), 18);
        Check.hull(x, 2, 5, 5, 9, 1);
        CHECK.due("risk 0, upper", x.risk(2, 0), 0);
        CHECK.due("risk 0, lower", x.risk(2, 1), 1);
        Check.hull(x, 2, 1, 9);
        CHECK.due("risk 8 by 9, upper", x.risk(3, 0), 8);
        CHECK.due("risk 8 by 9, lower", x.risk(3, 1), 9);
        Check.hull(x, 0, 1, 2, 1, 2, 1, 2, 1, 2, 1, 2, 1, 2, 1, 3, 1, 4);
        CHECK.due("risk 11 by 72, upper", x.risk(4, 0), 11);
        CHECK.due("risk 11 by 72, lower", x.risk(4, 1), 72);
        CHECK.due("risk(0, 2)", x.risk(0, 2), Check.LOST);
        CHECK.due("risk(0, -1)", x.risk(0, -1), Check.LOST);
        CHECK.due("risk(5, 0)", x.risk(5, 0), Check.LOST);
    }
}
