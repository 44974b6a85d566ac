import java.util.ArrayList;
import java.util.HashMap;
import java.util.List;
import java.util.Map;

/**
 * Tests by sentences of the document that name a boundary. A call that is to change nothing is made on one of
 * two objects that were made alike, and both must then answer alike to all that can be asked of them.
 */
final class Edges {
    static final int UNKNOWN = -1, OUTSIDE = -2, STATE = -3, FULL = -4, NONE = -9;
    static final int NULL = 1, CAST = 2, INDEX = 3, SIZE = 4;
    static final int LEAST_INT = Integer.MIN_VALUE, GREATEST_INT = Integer.MAX_VALUE;
    static final long LOST = Long.MIN_VALUE;

    interface Setup {
        void on(Run run);
    }

    /** No hulls, laws, sheets. */
    static final Setup EMPTY = run -> { };

    /** Three hulls, one of each kind; four laws; needs as at first no more; three sheets, one of each lane. */
    static final Setup FLEET = run -> {
        run.hull(0, 3, 4, 5, 2, 1, 9);
        run.hull(1, 3, 4, 5, 2, 2, 6, 1, 1);
        run.hull(2, 1, 2, 3, 4, 5, 6, 7, 8, 9, 1, 2, 3, 4, 5, 6, 7);
        run.law("L*M*H");
        run.law("B*9+D*9<40");
        run.law("60");
        run.law("A+S+K+L");
        int[] needs = {7, 7, 8, 2, 3, 12};
        for (int what = 0; what < needs.length; what++) {
            run.call("need", what, needs[what]);
        }
        run.layText(0, 0, "L*B/2+D<99");
        run.lay(1, 1, 1, 2, 3, 4, 5, 6, 7, 8, 9, 1, 2, 3, 4, 5, 6, 7, 8, 9, 1, 2);
        run.lay(2, 2, 0, 5, 5, 10, 70000, -1);
        run.call("tell", 2);
        run.call("launch", 1);
    };

    static final Setup ALL_HULLS = run -> {
        FLEET.on(run);
        for (int h = 3; h < 16; h++) {
            run.call("hull", h % 3, 1, 1, h, 1);
        }
    };

    static final Setup ALL_LAWS = run -> {
        FLEET.on(run);
        for (int n = 1; n <= 7; n += 2) {
            run.call("law", 0, 0, 0, n);
        }
    };

    /** No shape, and no hull told, holds so much. */
    static final Setup NO_SHAPES = run -> {
        FLEET.on(run);
        run.call("need", 3, 999);
    };

    private static final int PARTS = 8, AS_BEFORE = -1;

    private final Map<Setup, List<List<Long>>> asWere = new HashMap<>();
    private String told = "";
    private int toldAt = 0;
    private int sentences = 0;
    private int answers = 0;
    private int wrong = 0;

    /** Tells the sentence that the answers looked at from here on are of. */
    void sentence(String text) {
        closeSentence();
        told = text;
        toldAt = answers;
        sentences++;
    }

    private void closeSentence() {
        if (sentences > 0 && answers == toldAt) {
            wrong++;
            System.out.println(told + ": has no test");
        }
    }

    void same(String what, long got, long want) {
        answers++;
        if (got != want) {
            wrong++;
            System.out.println(told + ": " + what + " answered " + got + ", due is " + want);
        }
    }

    void due(Run run, long want, String name, int... args) {
        same(Run.told(name, args), run.call(name, args), want);
    }

    /** A call of which fault() is due after it, and that may change what it likes. */
    void dueWithFault(Run run, long want, int fault, String name, int... args) {
        due(run, want, name, args);
        same("fault() after " + Run.told(name, args), run.call("fault"), fault);
    }

    /** A call that names FAULTS and is refused, or comes to one: nothing but fault() is changed. */
    void refused(Setup setup, long want, int fault, String name, int... args) {
        unchanged(setup, want, fault, name, args);
    }

    /** A call that names no FAULTS and is refused, or only asks: nothing is changed, fault() neither. */
    void kept(Setup setup, long want, String name, int... args) {
        unchanged(setup, want, AS_BEFORE, name, args);
    }

    private void unchanged(Setup setup, long want, int fault, String name, int... args) {
        List<List<Long>> were = asWere.computeIfAbsent(setup, Edges::allParts);
        for (int part = 0; part < PARTS; part++) {
            Run run = new Run();
            setup.on(run);
            int before = comeToAFaultBut(fault, run);
            dueWithFault(run, want, fault == AS_BEFORE ? before : fault, name, args);
            boolean alike = were.get(part).equals(answersOf(run, part));
            same("what is asked in part " + part + " after " + Run.told(name, args), alike ? 1 : 0, 1);
        }
    }

    /** Comes to another fault than this one, without a change: so fault() shows what the next call makes of it. */
    private int comeToAFaultBut(int fault, Run run) {
        if (fault == SIZE) {
            run.call("put", 3, -1, 0);
        } else {
            run.call("sheet", 0, 0, -1);
        }
        int come = (int) run.call("fault");
        same("it comes to another fault first", come > 0 && come != fault ? 1 : 0, 1);
        return come;
    }

    private static List<List<Long>> allParts(Setup setup) {
        List<List<Long>> all = new ArrayList<>();
        for (int part = 0; part < PARTS; part++) {
            Run run = new Run();
            setup.on(run);
            all.add(answersOf(run, part));
        }
        return all;
    }

    private static List<Long> answersOf(Run run, int part) {
        List<Long> all = new ArrayList<>();
        switch (part) {
            case 0 -> askHulls(run, all);
            case 1 -> askLaws(run, all);
            case 2 -> askNeeds(run, all);
            case 3 -> askShapes(run, all);
            default -> askSheet(run, part - 4, all);
        }
        return all;
    }

    private static void askHulls(Run run, List<Long> all) {
        all.add(run.call("trace"));
        for (int what = 0; what < 3; what++) {
            all.add(run.call("many", what));
        }
        long hulls = run.call("many", 0);
        for (int h = 0; h <= hulls; h++) {
            all.add(run.call("ofHull", h, 10));
            long stations = run.call("ofHull", h, 0) + 2;
            for (int k = 0; k <= stations && k < 9; k++) {
                all.add(run.call("station", h, k, 0));
                all.add(run.call("station", h, k, 1));
            }
        }
        int next = (int) run.hull(1, 2, 3, 4, 5);
        for (int what = 0; what < 11; what++) {
            all.add(run.call("ofHull", next, what));
        }
    }

    private static void askLaws(Run run, List<Long> all) {
        for (int l = 0; l <= 8; l++) {
            all.add(run.call("words", l));
            for (int w = 0; w < 4; w++) {
                for (int h = 0; h < 3; h++) {
                    all.add(run.call("word", h, l, w));
                }
            }
        }
        int next = (int) run.law("A+S+B+D");
        for (int w = 0; w < 4; w++) {
            all.add(run.call("word", 0, next, w));
        }
    }

    private static void askNeeds(Run run, List<Long> all) {
        for (int what = 0; what < 6; what++) {
            all.add(run.call("need", what, 1));
        }
    }

    private static void askShapes(Run run, List<Long> all) {
        for (int kind = 0; kind < 3; kind++) {
            all.add(run.call("shapes", 2, 2, kind));
            all.add(run.call("mend", 2, 2, kind, 1));
            for (int l : new int[] {NONE, 0, 1}) {
                all.add(run.call("best", 2, 2, kind, l, 0));
                all.add(run.call("step", kind, l));
                all.add(run.call("route", 9, l));
            }
            all.add(run.call("crowd", 2, 2, kind, 1, 36));
            all.add(run.call("trim", kind, 0, 0));
            all.add(run.call("paid", 9, kind));
        }
    }

    private static void askSheet(Run run, int k, List<Long> all) {
        for (int lane = 0; lane < 3; lane++) {
            for (int i = 0; i < 61; i++) {
                all.add(run.call("cell", k, i, lane));
                if (i == 0) {
                    all.add(run.call("fault"));
                }
            }
        }
    }

    /** Ends the test: with exit code 1, if an answer was not as due or a sentence has none. */
    void end(String name) {
        closeSentence();
        System.out.println(name + ": " + sentences + " sentences, " + answers + " answers, " + wrong + " not as due");
        if (wrong != 0 || answers == 0) {
            System.exit(1);
        }
    }
}
