/** Hulls, the laws that measure them, and what both make of one another. README.md says how to use it. */
public final class KeelTolls {
    public static final int UNKNOWN = -1, OUTSIDE = -2, STATE = -3, FULL = -4, NONE = -9;
    public static final long LOST = Long.MIN_VALUE;

    private static final int MOST_HULLS = 16, MOST_STATIONS = 8, MOST_LAWS = 8, MOST_WORDS = 4, MOST_FACTORS = 3;
    private static final int MOST_SHEETS = 4, MOST_CELLS = 60, GREATEST_PART = 9, KINDS = 3, LANES = 3;
    // All shapes are gone through one by one, so they are of fewer and lesser parts than hulls may be.
    private static final int SHAPE_STATIONS = 4, GREATEST_SHAPE_PART = 3;

    // The faults, by the numbers that fault() tells.
    private static final int NO_FAULT = 0, NULL = 1, CAST = 2, INDEX = 3, SIZE = 4;

    // What a hull's measures are found by; the first eight are those that a law may name.
    private static final int L = 0, B = 1, M = 2, A = 3, D = 4, H = 5, S = 6, K = 7, HOLDS = 8, MEASURES = 9;

    private static final int SMOOTH = 0, TALL = 1, ENDS = 2, LEAST = 3, PLANK = 4, FREIGHT = 5;

    private static final int NO_WORD = -1;
    // No product of three factors is more, so as a limit this is none.
    private static final int NO_LIMIT = 99 * 99 * 99;

    private final Hull[] hulls = new Hull[MOST_HULLS];
    private int hullCount = 0;
    // One law more than are kept: a text is read into the first that is free, also when there is no room left.
    private final Law[] laws = new Law[MOST_LAWS + 1];
    private int lawCount = 0;
    private final Sheet[] sheets = new Sheet[MOST_SHEETS];
    private final Needs needs = new Needs();
    // One hull of each kind that is none of those told: calls try other shapes on it.
    private final Hull[] spare = {new Hull(NONE), new Decked(NONE), new Raked(NONE)};
    private final Search search = new Search();
    private final LawReader reader = new LawReader();
    private final Trace trace = new Trace();
    private int fault = NO_FAULT;

    public KeelTolls() {
        for (int l = 0; l < laws.length; l++) {
            laws[l] = new Law();
        }
        for (int k = 0; k < sheets.length; k++) {
            sheets[k] = new Sheet();
        }
    }

    // ---- 1 hulls

    public int hull(int kind, int sheet, int lane, int i, int n) {
        fault = NO_FAULT;
        Sheet from = sheetAt(sheet);
        if (from == null) {
            return UNKNOWN;
        }
        if (!isKind(kind) || !isLane(lane)) {
            return OUTSIDE;
        }
        int come = from.faultOfCells(lane, i, n, 2);
        if (come != NO_FAULT) {
            return faulted(come);
        }
        if (n < 1 || n > MOST_STATIONS || !from.hasOnlyParts(i, 2 * n)) {
            return OUTSIDE;
        }
        if (hullCount >= MOST_HULLS) {
            return FULL;
        }
        Hull made = newHull(kind, hullCount);
        made.takeParts(from.cells, i, n);
        hulls[hullCount] = made;
        hullCount++;
        return hullCount - 1;
    }

    public int ofHull(int h, int what) {
        Hull of = hullAt(h);
        if (of == null) {
            return UNKNOWN;
        }
        if (what < 0 || what > 10) {
            return OUTSIDE;
        }
        if (what == 10) {
            return of.kindNumber();
        }
        int[] measures = of.measured();
        return what == 9 ? needs.costOf(measures) : measures[what];
    }

    public int station(int h, int k, int what) {
        Hull of = hullAt(h);
        if (of == null || !of.hasStation(k)) {
            return UNKNOWN;
        }
        if (what < 0 || what > 1) {
            return OUTSIDE;
        }
        return of.parts[2 * k + what];
    }

    public int build(int h, int k, int what, int v) {
        Hull of = hullAt(h);
        if (of == null || !of.hasStation(k)) {
            return UNKNOWN;
        }
        if (what < 0 || what > 1 || !isPart(v)) {
            return OUTSIDE;
        }
        int was = of.parts[2 * k + what];
        of.parts[2 * k + what] = v;
        return was;
    }

    // ---- 2 laws

    public int law(int sheet, int lane, int i, int n) {
        fault = NO_FAULT;
        Sheet from = sheetAt(sheet);
        if (from == null) {
            return UNKNOWN;
        }
        if (!isLane(lane)) {
            return OUTSIDE;
        }
        int come = from.faultOfCells(lane, i, n, 1);
        if (come != NO_FAULT) {
            return faulted(come);
        }
        int firstFault = reader.read(from, i, n, laws[lawCount]);
        if (firstFault != NONE) {
            return -100 - firstFault;
        }
        if (lawCount >= MOST_LAWS) {
            return FULL;
        }
        lawCount++;
        return lawCount - 1;
    }

    public int words(int l) {
        Law by = lawAt(l);
        return by == null ? UNKNOWN : by.count;
    }

    public int owes(int h, int l) {
        Hull of = hullAt(h);
        Law by = lawAt(l);
        if (of == null || by == null) {
            return UNKNOWN;
        }
        return by.owedBy(of.measured(), NO_WORD);
    }

    public int word(int h, int l, int w) {
        Hull of = hullAt(h);
        Law by = lawAt(l);
        if (of == null || by == null || !by.hasWord(w)) {
            return UNKNOWN;
        }
        return by.list[w].makes(of.measured());
    }

    // ---- 3 needs, worth

    public int need(int what, int v) {
        if (!needs.has(what)) {
            return UNKNOWN;
        }
        if (!needs.allows(what, v)) {
            return OUTSIDE;
        }
        int was = needs.values[what];
        needs.values[what] = v;
        return was;
    }

    public int broken(int h, int what) {
        Hull of = hullAt(h);
        if (of == null) {
            return UNKNOWN;
        }
        if (what < 0 || what > 1) {
            return OUTSIDE;
        }
        int found = needs.firstBroken(of, of.measured());
        if (found == NONE) {
            return NONE;
        }
        return what == 0 ? found / MOST_STATIONS : found % MOST_STATIONS;
    }

    public long worth(int h, int l) {
        Hull of = hullAt(h);
        if (of == null || !isLawOrNone(l)) {
            return LOST;
        }
        return worthBy(of.measured(), lawAt(l), needs.values[FREIGHT]);
    }

    public long risk(int h, int which) {
        Hull of = hullAt(h);
        if (of == null || which < 0 || which > 1) {
            return LOST;
        }
        int upper = of.drowned();
        int lower = 9 * of.stations;
        int common = commonDivisor(upper, lower);
        if (common < 1) {
            return LOST;
        }
        return which == 0 ? upper / common : lower / common;
    }

    // ---- 4 the best, mended

    public long best(int n, int m, int kind, int l, int what) {
        if (!isLawOrNone(l) || !areShapes(n, m, kind) || what < 0 || what > 3) {
            return LOST;
        }
        Best found = bestBy(n, m, kind, lawAt(l), NO_WORD);
        if (!found.any) {
            return LOST;
        }
        switch (what) {
            case 0:
                return found.worth;
            case 1:
                return found.paid;
            case 2:
                return search.lossOf(found);
            default:
                return found.holds;
        }
    }

    public int shape(int n, int m, int kind, int l, int k) {
        if (!isLawOrNone(l)) {
            return UNKNOWN;
        }
        if (!areShapes(n, m, kind)) {
            return OUTSIDE;
        }
        if (k < 0 || k >= 2 * n) {
            return UNKNOWN;
        }
        Best found = bestBy(n, m, kind, lawAt(l), NO_WORD);
        return found.any ? found.row[k] : STATE;
    }

    public int shapes(int n, int m, int kind) {
        return areShapes(n, m, kind) ? search.countAll(spare[kind], n, m, needs) : OUTSIDE;
    }

    public long without(int n, int m, int kind, int l, int w, int what) {
        Law by = lawAt(l);
        if (by == null || !by.hasWord(w) || !areShapes(n, m, kind) || what < 1 || what > 2) {
            return LOST;
        }
        Best found = bestBy(n, m, kind, by, w);
        if (!found.any) {
            return LOST;
        }
        return what == 1 ? found.paid : search.lossOf(found);
    }

    public int mend(int n, int m, int kind, int v) {
        if (!areShapes(n, m, kind) || v < 0) {
            return OUTSIDE;
        }
        search.clear();
        for (int l = 0; l < lawCount; l++) {
            search.seek(laws[l], NO_WORD);
        }
        search.run(spare[kind], n, m, needs);
        return search.free.any ? search.leastLoss(v) : STATE;
    }

    public int crowd(int n, int m, int kind, int l, int v) {
        Law by = lawAt(l);
        if (by == null) {
            return UNKNOWN;
        }
        return areShapes(n, m, kind) ? search.countOwing(spare[kind], n, m, needs, by, v) : OUTSIDE;
    }

    public int step(int h, int l) {
        Hull of = hullAt(h);
        if (of == null || !isLawOrNone(l)) {
            return UNKNOWN;
        }
        Law by = lawAt(l);
        Hull other = spare[of.kindNumber()];
        other.takeParts(of.parts, 0, of.stations);
        int most = worthBy(of.measured(), by, needs.values[FREIGHT]);
        int answer = NONE;
        for (int p = 0; p < 2 * of.stations; p++) {
            for (int more = 0; more <= 1; more++) {
                int changed = of.parts[p] + 2 * more - 1;
                if (isPart(changed)) {
                    other.parts[p] = changed;
                    int[] measures = other.measured();
                    int now = worthBy(measures, by, needs.values[FREIGHT]);
                    if (now > most && needs.firstBroken(other, measures) == NONE) {
                        most = now;
                        answer = 100 * (p / 2) + 10 * (p % 2) + more;
                    }
                }
            }
            other.parts[p] = of.parts[p];
        }
        return answer;
    }

    public int trim(int h, int l, int what) {
        Hull of = hullAt(h);
        Law by = lawAt(l);
        if (of == null || by == null) {
            return UNKNOWN;
        }
        if (what < 0 || what > 1) {
            return OUTSIDE;
        }
        Hull turned = spare[of.kindNumber()];
        turned.takeTurned(of);
        int asIs = by.owedBy(of.measured(), NO_WORD);
        int asTurned = by.owedBy(turned.measured(), NO_WORD);
        if (what == 0) {
            return Math.min(asIs, asTurned);
        }
        return asTurned < asIs ? 1 : 0;
    }

    public int route(int f, int l) {
        if (!isLawOrNone(l)) {
            return UNKNOWN;
        }
        return needs.allows(FREIGHT, f) ? hullThatGoes(f, lawAt(l)) : OUTSIDE;
    }

    public int paid(int f, int l) {
        Law by = lawAt(l);
        if (by == null) {
            return UNKNOWN;
        }
        if (!needs.allows(FREIGHT, f)) {
            return OUTSIDE;
        }
        int sum = 0;
        for (int freight = 1; freight <= f; freight++) {
            Hull goes = hullAt(hullThatGoes(freight, by));
            if (goes != null) {
                sum += by.owedBy(goes.measured(), NO_WORD);
            }
        }
        return sum;
    }

    // ---- 5 sheets, parts

    public int sheet(int k, int lane, int n) {
        fault = NO_FAULT;
        Sheet of = sheetAt(k);
        if (of == null) {
            return UNKNOWN;
        }
        if (!isLane(lane) || n > MOST_CELLS) {
            return OUTSIDE;
        }
        if (n < 0) {
            return faulted(SIZE);
        }
        of.begin(lane, n);
        return 1;
    }

    public int lose(int k) {
        Sheet of = sheetAt(k);
        if (of == null) {
            return UNKNOWN;
        }
        int had = of.present ? 1 : 0;
        of.present = false;
        return had;
    }

    public int put(int k, int i, int v) {
        fault = NO_FAULT;
        Sheet of = sheetAt(k);
        if (of == null) {
            return UNKNOWN;
        }
        if (!of.present) {
            return faulted(NULL);
        }
        if (!of.hasCells(i, 1)) {
            return faulted(INDEX);
        }
        of.store(i, v);
        return 1;
    }

    public long cell(int k, int i, int lane) {
        fault = NO_FAULT;
        Sheet of = sheetAt(k);
        if (of == null || !isLane(lane)) {
            return LOST;
        }
        fault = of.faultOfCells(lane, i, 1, 1);
        return fault == NO_FAULT ? of.cells[i] : LOST;
    }

    public int copy(int k, int i, int other, int j, int n) {
        fault = NO_FAULT;
        Sheet from = sheetAt(k);
        Sheet to = sheetAt(other);
        if (from == null || to == null) {
            return UNKNOWN;
        }
        if (!from.present || !to.present) {
            return faulted(NULL);
        }
        if (from.lane != to.lane) {
            return faulted(CAST);
        }
        if (!from.hasCells(i, n) || !to.hasCells(j, n)) {
            return faulted(INDEX);
        }
        System.arraycopy(from.cells, i, to.cells, j, n);
        return n;
    }

    public int tell(int h) {
        Hull of = hullAt(h);
        return of == null ? UNKNOWN : of.told(trace);
    }

    public int launch(int h) {
        Hull of = hullAt(h);
        return of == null ? UNKNOWN : of.launched(trace);
    }

    public int as(int h, int kind) {
        fault = NO_FAULT;
        Hull of = hullAt(h);
        if (of == null) {
            return UNKNOWN;
        }
        if (!isKind(kind)) {
            return OUTSIDE;
        }
        return isOfKind(of, kind) ? 1 : faulted(CAST);
    }

    public int trace() {
        return trace.value;
    }

    public int fault() {
        return fault;
    }

    public int many(int what) {
        switch (what) {
            case 0:
                return hullCount;
            case 1:
                return lawCount;
            case 2:
                return wordsOfAll();
            default:
                return OUTSIDE;
        }
    }

    // ---- what the calls share

    private Hull hullAt(int h) {
        return h >= 0 && h < hullCount ? hulls[h] : null;
    }

    private Law lawAt(int l) {
        return l >= 0 && l < lawCount ? laws[l] : null;
    }

    private boolean isLawOrNone(int l) {
        return l == NONE || lawAt(l) != null;
    }

    private Sheet sheetAt(int k) {
        return k >= 0 && k < sheets.length ? sheets[k] : null;
    }

    private int faulted(int which) {
        fault = which;
        return -10 - which;
    }

    private int worthBy(int[] measures, Law by, int freight) {
        int free = needs.freeWorth(measures, freight);
        return by == null ? free : free - by.owedBy(measures, NO_WORD);
    }

    private Best bestBy(int n, int m, int kind, Law by, int leftOut) {
        search.clear();
        if (by == null) {
            search.run(spare[kind], n, m, needs);
            return search.free;
        }
        Best sought = search.seek(by, leftOut);
        search.run(spare[kind], n, m, needs);
        return sought;
    }

    private int hullThatGoes(int freight, Law by) {
        int most = 0;
        int goes = NONE;
        for (int h = 0; h < hullCount; h++) {
            int[] measures = hulls[h].measured();
            int now = worthBy(measures, by, freight);
            if (now > most && needs.firstBroken(hulls[h], measures) == NONE) {
                most = now;
                goes = h;
            }
        }
        return goes;
    }

    private int wordsOfAll() {
        int sum = 0;
        for (int l = 0; l < lawCount; l++) {
            sum += laws[l].count;
        }
        return sum;
    }

    private static Hull newHull(int kind, int number) {
        if (kind == 2) {
            return new Raked(number);
        }
        return kind == 1 ? new Decked(number) : new Hull(number);
    }

    private static boolean isOfKind(Hull hull, int kind) {
        if (kind == 2) {
            return hull instanceof Raked;
        }
        return kind == 0 || hull instanceof Decked;
    }

    private static boolean isKind(int kind) {
        return kind >= 0 && kind < KINDS;
    }

    private static boolean isLane(int lane) {
        return lane >= 0 && lane < LANES;
    }

    private static boolean isPart(int v) {
        return v >= 1 && v <= GREATEST_PART;
    }

    private static boolean areShapes(int n, int m, int kind) {
        return n >= 1 && n <= SHAPE_STATIONS && m >= 1 && m <= GREATEST_SHAPE_PART && isKind(kind);
    }

    private static int commonDivisor(int a, int b) {
        int greater = a;
        int lesser = b;
        // Both are at most 72, so far fewer rounds than these are needed.
        for (int round = 0; round < 100 && lesser != 0; round++) {
            int rest = greater % lesser;
            greater = lesser;
            lesser = rest;
        }
        return greater;
    }

    private static class Hull {
        private final int number;
        // Breadth and depth of the first station, of the second ..
        final int[] parts = new int[2 * MOST_STATIONS];
        int stations = 0;
        private final int[] measures = new int[MEASURES];

        Hull(int number) {
            this.number = number;
        }

        int kindNumber() {
            return 0;
        }

        boolean hasStation(int k) {
            return k >= 0 && k < stations;
        }

        void takeParts(int[] from, int i, int n) {
            stations = n;
            System.arraycopy(from, i, parts, 0, 2 * n);
        }

        void takeTurned(Hull from) {
            stations = from.stations;
            for (int k = 0; k < stations; k++) {
                int back = stations - 1 - k;
                parts[2 * k] = from.parts[2 * back];
                parts[2 * k + 1] = from.parts[2 * back + 1];
            }
        }

        /** All measures and what it holds, in a row that the next call writes anew. */
        int[] measured() {
            int breadths = 0;
            int depths = 0;
            int broadest = 0;
            int deepest = 0;
            int holds = 0;
            for (int p = 0; p < 2 * stations; p += 2) {
                int breadth = parts[p];
                int depth = parts[p + 1];
                breadths += breadth;
                depths += depth;
                holds += breadth * depth;
                if (breadth > broadest) {
                    broadest = breadth;
                }
                if (depth > deepest) {
                    deepest = depth;
                }
            }
            int middle = 2 * (stations / 2);
            measures[L] = stations;
            measures[B] = broadest;
            measures[M] = parts[middle];
            measures[A] = breadths;
            measures[D] = deepest;
            measures[H] = parts[middle + 1];
            measures[S] = depths;
            measures[K] = 0;
            measures[HOLDS] = holds;
            return measures;
        }

        int drowned() {
            int sum = 0;
            for (int p = 0; p < 2 * stations; p += 2) {
                sum += Math.max(0, parts[p + 1] - parts[p]);
            }
            return sum;
        }

        int told(Trace trace) {
            return toldAsHull(trace);
        }

        /** The body of every hull, for a kind that leaves out the one between. */
        final int toldAsHull(Trace trace) {
            trace.leave(1);
            return stations;
        }

        int launched(Trace trace) {
            trace.leave(4);
            return number;
        }
    }

    private static class Decked extends Hull {
        Decked(int number) {
            super(number);
        }

        int kindNumber() {
            return 1;
        }

        int[] measured() {
            int[] measures = super.measured();
            measures[K] = 1;
            measures[HOLDS] += measures[A];
            return measures;
        }

        int told(Trace trace) {
            trace.leave(2);
            return super.told(trace) + 100;
        }
    }

    private static final class Raked extends Decked {
        Raked(int number) {
            super(number);
        }

        int kindNumber() {
            return 2;
        }

        int[] measured() {
            int[] measures = super.measured();
            measures[L] = Math.max(0, measures[L] - 2);
            return measures;
        }

        int told(Trace trace) {
            trace.leave(3);
            int asDecked = super.told(trace);
            return asDecked + toldAsHull(trace);
        }

        int launched(Trace trace) {
            trace.leave(5);
            return 90;
        }
    }

    private static final class Trace {
        int value = 0;

        void leave(int number) {
            value = 31 * value + number;
        }
    }

    private static final class Word {
        // The product of all its numbers; the letters are told by their measures.
        private int number = 1;
        private final int[] letters = new int[MOST_FACTORS];
        private int letterCount = 0;
        int divisor = 1;
        int atMost = NO_LIMIT;

        void clear() {
            number = 1;
            letterCount = 0;
            divisor = 1;
            atMost = NO_LIMIT;
        }

        void addNumber(int factor) {
            number *= factor;
        }

        void addLetter(int measure) {
            if (letterCount < letters.length) {
                letters[letterCount] = measure;
                letterCount++;
            }
        }

        int makes(int[] measures) {
            int product = number;
            for (int f = 0; f < letterCount; f++) {
                product *= measures[letters[f]];
            }
            if (divisor > 1) {
                product /= divisor;
            }
            return product < atMost ? product : atMost;
        }
    }

    private static final class Law {
        final Word[] list = {new Word(), new Word(), new Word(), new Word()};
        int count = 0;

        boolean hasWord(int w) {
            return w >= 0 && w < count;
        }

        int owedBy(int[] measures, int leftOut) {
            int sum = 0;
            for (int w = 0; w < count; w++) {
                if (w != leftOut) {
                    sum += list[w].makes(measures);
                }
            }
            return sum;
        }
    }

    /** Reads a law's text. It stops at the first fault, which is kept. */
    private static final class LawReader {
        private static final int NO_CODE = -1;

        private Sheet text = null;
        private int start = 0;
        private int length = 0;
        private int place = 0;
        private int firstFault = NONE;

        /** The first fault, or NONE, where the law is what the text tells. */
        int read(Sheet from, int i, int n, Law law) {
            text = from;
            start = i;
            length = n;
            place = 0;
            firstFault = NONE;
            law.count = 0;
            boolean more = true;
            for (int w = 0; w < MOST_WORDS && more; w++) {
                readWord(law.list[w]);
                law.count = w + 1;
                more = w + 1 < MOST_WORDS && takes('+');
            }
            if (place < length) {
                failAt(place);
            }
            return firstFault;
        }

        private void readWord(Word word) {
            word.clear();
            readFactor(word);
            for (int f = 1; f < MOST_FACTORS && takes('*'); f++) {
                readFactor(word);
            }
            if (takes('/')) {
                word.divisor = readNumber(1, 2);
            }
            if (takes('<')) {
                word.atMost = readNumber(3, 0);
            }
        }

        private void readFactor(Word word) {
            if (isDigit(code())) {
                word.addNumber(readNumber(2, 1));
                return;
            }
            int measure = measureOf(code());
            if (measure == NONE) {
                failAt(place);
                return;
            }
            word.addLetter(measure);
            place++;
        }

        private int readNumber(int mostDigits, int least) {
            int first = place;
            int value = 0;
            for (int d = 0; d < mostDigits && isDigit(code()); d++) {
                value = 10 * value + code() - '0';
                place++;
            }
            if (place == first || value < least) {
                failAt(first);
            }
            return value;
        }

        private boolean takes(int code) {
            boolean taken = code() == code;
            if (taken) {
                place++;
            }
            return taken;
        }

        private int code() {
            return firstFault == NONE && place < length ? text.cells[start + place] : NO_CODE;
        }

        private void failAt(int where) {
            if (firstFault == NONE) {
                firstFault = where;
            }
        }

        private static boolean isDigit(int code) {
            return code >= '0' && code <= '9';
        }

        private static int measureOf(int code) {
            switch (code) {
                case 'L':
                    return L;
                case 'B':
                    return B;
                case 'M':
                    return M;
                case 'A':
                    return A;
                case 'D':
                    return D;
                case 'H':
                    return H;
                case 'S':
                    return S;
                case 'K':
                    return K;
                default:
                    return NONE;
            }
        }
    }

    /** The needs, plank and freight: what they are now, and what they make of a hull. */
    private static final class Needs {
        private static final int[] LEASTS = {0, 0, 1, 0, 0, 1};
        private static final int[] MOSTS = {8, 8, 9, 999, 9, 99};

        final int[] values = {8, 8, 9, 0, 1, 10};

        boolean has(int what) {
            return what >= 0 && what < values.length;
        }

        boolean allows(int what, int v) {
            return v >= LEASTS[what] && v <= MOSTS[what];
        }

        int costOf(int[] measures) {
            return values[PLANK] * (measures[A] + 2 * measures[S]);
        }

        int freeWorth(int[] measures, int freight) {
            return freight * measures[HOLDS] - costOf(measures);
        }

        /** The first need that is broken, times MOST_STATIONS, and the station; or NONE. */
        int firstBroken(Hull hull, int[] measures) {
            int last = hull.stations - 1;
            for (int k = 0; k < last; k++) {
                if (Math.abs(hull.parts[2 * k] - hull.parts[2 * k + 2]) > values[SMOOTH]) {
                    return SMOOTH * MOST_STATIONS + k;
                }
            }
            for (int k = 0; k <= last; k++) {
                if (hull.parts[2 * k + 1] - hull.parts[2 * k] > values[TALL]) {
                    return TALL * MOST_STATIONS + k;
                }
            }
            if (last >= 0 && hull.parts[0] > values[ENDS]) {
                return ENDS * MOST_STATIONS;
            }
            if (last >= 0 && hull.parts[2 * last] > values[ENDS]) {
                return ENDS * MOST_STATIONS + last;
            }
            return measures[HOLDS] < values[LEAST] ? LEAST * MOST_STATIONS : NONE;
        }
    }

    /** The best shape so far by one law, perhaps without one of its words, or by none. */
    private static final class Best {
        private Law law = null;
        private int leftOut = NO_WORD;
        boolean any = false;
        int worth = 0;
        int freeWorth = 0;
        int paid = 0;
        int holds = 0;
        final int[] row = new int[2 * SHAPE_STATIONS];

        void begin(Law by, int without) {
            law = by;
            leftOut = without;
            any = false;
        }

        void weigh(Hull shape, int[] measures, int free) {
            // No hull owes less than 0: what is not worth more without the law can't be so by it.
            if (any && free <= worth) {
                return;
            }
            int owed = law == null ? 0 : law.owedBy(measures, leftOut);
            if (any && free - owed <= worth) {
                return;
            }
            any = true;
            worth = free - owed;
            freeWorth = free;
            paid = owed;
            holds = measures[HOLDS];
            System.arraycopy(shape.parts, 0, row, 0, row.length);
        }
    }

    /** Goes through all shapes, for the best by none and by each law that is sought. */
    private static final class Search {
        final Best free = new Best();
        private final Best[] bests = new Best[MOST_LAWS];
        private int sought = 0;

        Search() {
            for (int b = 0; b < bests.length; b++) {
                bests[b] = new Best();
            }
        }

        void clear() {
            sought = 0;
            free.begin(null, NO_WORD);
        }

        /** The best by a law, as run() will find it; there are as many as there may be laws. */
        Best seek(Law law, int leftOut) {
            if (sought >= bests.length) {
                return free;
            }
            Best next = bests[sought];
            next.begin(law, leftOut);
            sought++;
            return next;
        }

        void run(Hull shape, int n, int m, Needs needs) {
            for (int left = firstShape(shape, n, m); left > 0; left--) {
                int[] measures = shape.measured();
                if (needs.firstBroken(shape, measures) == NONE) {
                    int worth = needs.freeWorth(measures, needs.values[FREIGHT]);
                    free.weigh(shape, measures, worth);
                    for (int b = 0; b < sought; b++) {
                        bests[b].weigh(shape, measures, worth);
                    }
                }
                nextShape(shape, m);
            }
        }

        int lossOf(Best best) {
            return free.freeWorth - best.freeWorth;
        }

        /** Which of those sought has the least loss, of those that pay v or more; or NONE. */
        int leastLoss(int v) {
            int found = NONE;
            int least = 0;
            for (int b = 0; b < sought; b++) {
                int loss = lossOf(bests[b]);
                if (bests[b].paid >= v && (found == NONE || loss < least)) {
                    found = b;
                    least = loss;
                }
            }
            return found;
        }

        int countAll(Hull shape, int n, int m, Needs needs) {
            int count = 0;
            for (int left = firstShape(shape, n, m); left > 0; left--) {
                if (needs.firstBroken(shape, shape.measured()) == NONE) {
                    count++;
                }
                nextShape(shape, m);
            }
            return count;
        }

        int countOwing(Hull shape, int n, int m, Needs needs, Law law, int v) {
            int count = 0;
            for (int left = firstShape(shape, n, m); left > 0; left--) {
                int[] measures = shape.measured();
                if (law.owedBy(measures, NO_WORD) == v && needs.firstBroken(shape, measures) == NONE) {
                    count++;
                }
                nextShape(shape, m);
            }
            return count;
        }

        /** Makes it the first shape as a row: how many there are, with those that break a need. */
        private static int firstShape(Hull shape, int n, int m) {
            shape.stations = n;
            int count = 1;
            for (int p = 0; p < 2 * n; p++) {
                shape.parts[p] = 1;
                count *= m;
            }
            return count;
        }

        private static void nextShape(Hull shape, int m) {
            for (int p = 2 * shape.stations - 1; p >= 0; p--) {
                if (shape.parts[p] < m) {
                    shape.parts[p]++;
                    return;
                }
                shape.parts[p] = 1;
            }
        }
    }

    /** A row of numbers of a lane, or nothing. Its cells are kept for the next row. */
    private static final class Sheet {
        final int[] cells = new int[MOST_CELLS];
        boolean present = false;
        int lane = 0;
        private int length = 0;

        void begin(int ofLane, int n) {
            present = true;
            lane = ofLane;
            length = n;
            for (int i = 0; i < n; i++) {
                cells[i] = 0;
            }
        }

        void store(int i, int v) {
            if (lane == 0) {
                cells[i] = (byte) v;
            } else if (lane == 1) {
                cells[i] = (short) v;
            } else {
                cells[i] = v;
            }
        }

        boolean hasCells(int i, long n) {
            return i >= 0 && i <= length && n >= 0 && n <= length - i;
        }

        /** What comes first of taking n times some cells from i on, as a row of a lane. */
        int faultOfCells(int ofLane, int i, int n, int times) {
            if (present && lane != ofLane) {
                return CAST;
            }
            if (!present) {
                return NULL;
            }
            if (n < 0) {
                return SIZE;
            }
            return hasCells(i, (long) times * n) ? NO_FAULT : INDEX;
        }

        boolean hasOnlyParts(int i, int n) {
            for (int c = i; c < i + n; c++) {
                if (!isPart(cells[c])) {
                    return false;
                }
            }
            return true;
        }
    }
}
