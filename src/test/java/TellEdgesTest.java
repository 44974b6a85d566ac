import java.math.BigInteger;
import java.util.Arrays;

/** The boundaries that promises 29 to 34 name: tell, launch, as, trace, fault, many. */
public final class TellEdgesTest {
    private static final Edges EDGES = new Edges();
    private static final int UNKNOWN = Edges.UNKNOWN, OUTSIDE = Edges.OUTSIDE, NONE = Edges.NONE;
    private static final int NULL = Edges.NULL, CAST = Edges.CAST, INDEX = Edges.INDEX, SIZE = Edges.SIZE;
    private static final int[] NO_HULLS = {Edges.LEAST_INT, NONE, -1, 3, 16, Edges.GREATEST_INT};
    private static final int MOST_CALLS = 512;

    public static void main(String[] args) {
        toldByStations();
        tellRefusals();
        launchedByNumber();
        launchRefusals();
        asEachKind();
        asRefusals();
        traceOfBodies();
        traceWraps();
        theLastCallThatIsPromised();
        faultOfEachCall();
        faultOfTheLatest();
        faultKeptByOthers();
        manyOfEach();
        manyRefusals();
        EDGES.end("TellEdgesTest");
    }

    private static int[] ones(int stations) {
        int[] row = new int[2 * stations];
        Arrays.fill(row, 1);
        return row;
    }

    private static void toldByStations() {
        EDGES.sentence("HULL: how many STATIONS. DECKED: what HULL's gives, and 100. RAKED: what DECKED's gives, and what"
            + " HULL's gives: of 1 to 8 STATIONS");
        for (int n = 1; n <= 8; n++) {
            Run run = new Run();
            int[] want = {n, n + 100, 2 * n + 100};
            for (int kind = 0; kind < 3; kind++) {
                run.hull(kind, ones(n));
                EDGES.due(run, want[kind], "tell", kind);
            }
        }
    }

    private static void tellRefusals() {
        EDGES.sentence("Promise 29: UNKNOWN; TRACE is as it was");
        for (int h : NO_HULLS) {
            EDGES.kept(Edges.FLEET, UNKNOWN, "tell", h);
        }
        EDGES.kept(Edges.EMPTY, UNKNOWN, "tell", 0);
        EDGES.kept(Edges.ALL_HULLS, UNKNOWN, "tell", 16);
        Run run = new Run();
        Edges.ALL_HULLS.on(run);
        EDGES.due(run, 1, "tell", 15);
    }

    private static void launchedByNumber() {
        EDGES.sentence("LAUNCHED by a lent body (4): its number; RAKED ones have their own (5): 90");
        Run run = new Run();
        run.lay(0, 0, 1, 1);
        for (int h = 0; h < 16; h++) {
            int kind = (h + 2) % 3;
            run.call("hull", kind, 0, 0, 0, 1);
            int was = (int) run.call("trace");
            EDGES.due(run, kind == 2 ? 90 : h, "launch", h);
            EDGES.due(run, 31 * was + (kind == 2 ? 5 : 4), "trace");
        }
    }

    private static void launchRefusals() {
        EDGES.sentence("Promise 30: UNKNOWN; TRACE is as it was");
        for (int h : NO_HULLS) {
            EDGES.kept(Edges.FLEET, UNKNOWN, "launch", h);
        }
        EDGES.kept(Edges.EMPTY, UNKNOWN, "launch", 0);
        EDGES.kept(Edges.ALL_HULLS, UNKNOWN, "launch", 16);
    }

    private static void asEachKind() {
        EDGES.sentence("Promise 31: A HULL, taken as one of a kind: 1. CAST: it is none");
        for (int h = 0; h < 3; h++) {
            for (int kind = 0; kind < 3; kind++) {
                if (kind <= h) {
                    EDGES.refused(Edges.FLEET, 1, 0, "as", h, kind);
                } else {
                    EDGES.refused(Edges.FLEET, -12, CAST, "as", h, kind);
                }
            }
        }
    }

    private static void asRefusals() {
        EDGES.sentence("Promise 31: UNKNOWN; ahead of OUTSIDE");
        for (int h : NO_HULLS) {
            EDGES.refused(Edges.FLEET, UNKNOWN, 0, "as", h, 0);
            EDGES.refused(Edges.FLEET, UNKNOWN, 0, "as", h, 3);
        }
        EDGES.refused(Edges.EMPTY, UNKNOWN, 0, "as", 0, 0);
        EDGES.sentence("Promise 31: OUTSIDE; ahead of CAST");
        for (int kind : new int[] {Edges.LEAST_INT, -1, 3, Edges.GREATEST_INT}) {
            for (int h = 0; h < 3; h++) {
                EDGES.refused(Edges.FLEET, OUTSIDE, 0, "as", h, kind);
            }
        }
    }

    private static void traceOfBodies() {
        EDGES.sentence("bodies that leave their number in TRACE as they begin");
        int[][] told = {{1}, {2, 1}, {3, 2, 1, 1}};
        for (int kind = 0; kind < 3; kind++) {
            Run run = new Run();
            run.hull(kind, 5, 5);
            EDGES.due(run, 0, "trace");
            run.call("tell", 0);
            int want = 0;
            for (int body : told[kind]) {
                want = 31 * want + body;
            }
            EDGES.due(run, want, "trace");
            EDGES.due(run, want, "trace");
        }
    }

    private static void traceWraps() {
        EDGES.sentence("TRACE (an int that wraps, 0 at first, becomes 31 times it and the number)");
        Run run = new Run();
        run.hull(0, 1, 1);
        BigInteger exact = BigInteger.ZERO;
        for (int call = 0; call < 20; call++) {
            run.call("launch", 0);
            exact = exact.multiply(BigInteger.valueOf(31)).add(BigInteger.valueOf(4));
            EDGES.due(run, exact.intValue(), "trace");
        }
        Run at = new Run();
        at.hull(0, 1, 1);
        // 4 * (1 + 31 + .. + 31 to the 6th) is the first to go beyond the greatest int.
        int[] want = {4, 128, 3972, 123136, 3817220, 118333824, -626618748};
        for (int trace : want) {
            at.call("launch", 0);
            EDGES.due(at, trace, "trace");
        }
    }

    private static void theLastCallThatIsPromised() {
        EDGES.sentence("An object is used for at most 512 calls: the last of them is answered as the first");
        Run run = new Run();
        run.hull(2, 1, 1, 1, 1);
        int want = 0;
        while (run.calls() < MOST_CALLS - 1) {
            EDGES.same("tell(0)", run.call("tell", 0), 104);
            for (int body : new int[] {3, 2, 1, 1}) {
                want = 31 * want + body;
            }
        }
        EDGES.due(run, want, "trace");
        EDGES.same("calls", run.calls(), MOST_CALLS);
    }

    private static void faultOfEachCall() {
        EDGES.sentence("Promise 33: The FAULT of the latest call: of each call that names FAULTS, of each of them");
        Run run = new Run();
        Edges.FLEET.on(run);
        EDGES.dueWithFault(run, -12, CAST, "hull", 0, 1, 0, 0, 1);
        EDGES.dueWithFault(run, -11, NULL, "hull", 0, 3, 0, 0, 1);
        EDGES.dueWithFault(run, -14, SIZE, "hull", 0, 1, 1, 0, -1);
        EDGES.dueWithFault(run, -13, INDEX, "hull", 0, 1, 1, -1, 1);
        EDGES.dueWithFault(run, -12, CAST, "law", 0, 1, 0, 1);
        EDGES.dueWithFault(run, -11, NULL, "law", 3, 0, 0, 1);
        EDGES.dueWithFault(run, -14, SIZE, "law", 0, 0, 0, -1);
        EDGES.dueWithFault(run, -13, INDEX, "law", 0, 0, -1, 1);
        EDGES.dueWithFault(run, -14, SIZE, "sheet", 0, 0, -1);
        EDGES.dueWithFault(run, -11, NULL, "put", 3, 0, 0);
        EDGES.dueWithFault(run, -13, INDEX, "put", 0, -1, 0);
        EDGES.dueWithFault(run, Edges.LOST, CAST, "cell", 0, 0, 1);
        EDGES.dueWithFault(run, Edges.LOST, NULL, "cell", 3, 0, 1);
        EDGES.dueWithFault(run, Edges.LOST, INDEX, "cell", 0, -1, 0);
        EDGES.dueWithFault(run, -11, NULL, "copy", 0, 0, 3, 0, 0);
        EDGES.dueWithFault(run, -12, CAST, "copy", 0, 0, 1, 0, 0);
        EDGES.dueWithFault(run, -13, INDEX, "copy", 0, 0, 0, 0, -1);
        EDGES.dueWithFault(run, -12, CAST, "as", 0, 1);
    }

    private static void faultOfTheLatest() {
        EDGES.sentence("Promise 33: 0: it came to none, or was refused");
        Object[][] calls = {{1, "put", 0, 0, 'L'}, {UNKNOWN, "put", 4, 0, 0}, {1, "sheet", 3, 0, 1},
            {OUTSIDE, "sheet", 3, 0, 61}, {'L', "cell", 0, 0, 0}, {1, "copy", 0, 0, 0, 0, 1}, {UNKNOWN, "copy", 4, 0, 0, 0, 0},
            {3, "hull", 0, 1, 1, 0, 1}, {OUTSIDE, "hull", 0, 1, 1, 0, 0}, {4, "law", 0, 0, 0, 1}, {-102, "law", 0, 0, 0, 2},
            {1, "as", 0, 0}, {OUTSIDE, "as", 0, 3}, {UNKNOWN, "as", 9, 0}};
        for (Object[] call : calls) {
            Run run = new Run();
            Edges.FLEET.on(run);
            EDGES.dueWithFault(run, -12, CAST, "as", 0, 2);
            int[] args = new int[call.length - 2];
            for (int a = 0; a < args.length; a++) {
                args[a] = number(call[a + 2]);
            }
            EDGES.dueWithFault(run, number(call[0]), 0, (String) call[1], args);
        }
    }

    private static int number(Object given) {
        return given instanceof Character c ? c : (Integer) given;
    }

    private static void faultKeptByOthers() {
        EDGES.sentence("Promise 33: the latest call that names one: those that name none leave it as it was");
        Run run = new Run();
        Edges.FLEET.on(run);
        run.call("put", 0, 10, 0);
        EDGES.dueWithFault(run, 3, INDEX, "build", 0, 0, 0, 3);
        EDGES.dueWithFault(run, 12, INDEX, "need", 5, 12);
        EDGES.dueWithFault(run, 116, INDEX, "tell", 2);
        EDGES.dueWithFault(run, 1, INDEX, "launch", 1);
        EDGES.dueWithFault(run, 0, INDEX, "lose", 3);
        EDGES.dueWithFault(run, 1, INDEX, "lose", 1);
        EDGES.dueWithFault(run, UNKNOWN, INDEX, "lose", 4);
        EDGES.dueWithFault(run, 3, INDEX, "many", 0);
        EDGES.dueWithFault(run, OUTSIDE, INDEX, "many", 3);
        EDGES.dueWithFault(run, INDEX, INDEX, "fault");
    }

    private static void manyOfEach() {
        EDGES.sentence("Promise 34: How many: 0 HULLS, 1 LAWS, 2 words of all LAWS: none, and all that there may be");
        for (int what = 0; what < 3; what++) {
            EDGES.kept(Edges.EMPTY, 0, "many", what);
        }
        EDGES.kept(Edges.ALL_HULLS, 16, "many", 0);
        EDGES.kept(Edges.ALL_LAWS, 8, "many", 1);
        EDGES.kept(Edges.ALL_LAWS, 1 + 2 + 1 + 4 + 1 + 1 + 1 + 2, "many", 2);
        Run run = new Run();
        run.layText(0, 0, "L+B+D+S");
        for (int l = 0; l < 8; l++) {
            run.call("law", 0, 0, 0, 7);
            EDGES.due(run, 4 * (l + 1), "many", 2);
        }
        run.call("law", 0, 0, 0, 7);
        EDGES.due(run, 32, "many", 2);
    }

    private static void manyRefusals() {
        EDGES.sentence("Promise 34: OUTSIDE");
        for (int what : new int[] {Edges.LEAST_INT, NONE, -1, 3, Edges.GREATEST_INT}) {
            EDGES.kept(Edges.FLEET, OUTSIDE, "many", what);
            EDGES.kept(Edges.EMPTY, OUTSIDE, "many", what);
        }
    }
}
