import java.util.Random;

/** Runs of calls, the same each time, on the program and on PlainModel: all answers are alike. */
public final class ModelTest {
    private static final Check CHECK = new Check();
    private static final int RUNS = 2500, DEAR_EVERY = 12;
    // The document answers for 512 calls; the longest row of them that belongs together is a law's of 58 codes.
    private static final int MOST_CALLS = 512, LONGEST_ROW = 64;
    private static final int[] ODD = {-9, -2, -1, 0, 60, 61, 100, 999, 1000, Integer.MAX_VALUE, Integer.MIN_VALUE, 1 << 30};
    private static final String CODES = "LBMADHSKLBMADHSK+++***///<<<01234567890123456789x?";

    private final Random random;
    private final KeelTolls x = new KeelTolls();
    private final PlainModel y = new PlainModel();
    private final String run;
    private final int favoured;
    private int calls = 0;

    private ModelTest(int seed) {
        random = new Random(seed);
        run = "run " + seed + ": ";
        // Without such runs 16 hulls or 8 laws would hardly ever be told.
        favoured = seed % 4;
    }

    public static void main(String[] args) {
        for (int seed = 0; seed < RUNS; seed++) {
            new ModelTest(seed).goOn();
        }
        CHECK.end("ModelTest");
    }

    private void goOn() {
        while (calls < MOST_CALLS - LONGEST_ROW) {
            switch (random.nextInt(3) == 0 && favoured < 2 ? favoured : random.nextInt(10)) {
                case 0 -> layHull();
                case 1 -> layLaw();
                case 2, 3 -> ofHulls();
                case 4 -> needs();
                case 5, 6 -> ofBoth();
                case 7 -> shapes();
                default -> sheets();
            }
            due(run + "fault()", x.fault(), y.fault);
            due(run + "trace()", x.trace(), y.trace);
        }
    }

    private void due(String call, long got, long want) {
        calls++;
        CHECK.due(call, got, want);
    }

    /** Mostly a number from .. to, at times one beside them or far from them. */
    private int some(int from, int to) {
        int dice = random.nextInt(60);
        if (dice == 0) {
            return ODD[random.nextInt(ODD.length)];
        }
        if (dice == 1) {
            return random.nextBoolean() ? from - 1 : to + 1;
        }
        return to < from ? from : from + random.nextInt(to - from + 1);
    }

    private int someHull() {
        return some(0, y.boats.size() - 1);
    }

    private int someLaw() {
        return some(0, y.laws.size() - 1);
    }

    private int someLawOrNone() {
        return random.nextInt(4) == 0 ? Check.NONE : someLaw();
    }

    private void put(int k, int i, int v) {
        due(run + "put(" + k + ", " + i + ", " + v + ")", x.put(k, i, v), y.put(k, i, v));
    }

    private void sheet(int k, int lane, int n) {
        due(run + "sheet(" + k + ", " + lane + ", " + n + ")", x.sheet(k, lane, n), y.sheet(k, lane, n));
    }

    private void layHull() {
        int k = random.nextInt(4);
        int lane = random.nextInt(3);
        int n = random.nextInt(12) == 0 ? 9 : 1 + random.nextInt(favoured == 0 ? 3 : 8);
        int from = random.nextInt(3);
        sheet(k, lane, from + 2 * n);
        boolean wide = random.nextBoolean();
        for (int i = 0; i < 2 * n; i++) {
            put(k, from + i, wide ? some(1, 9) : some(1, 4));
        }
        hull(some(0, 2), some(k, k), some(lane, lane), some(from, from), some(n, n));
    }

    private void hull(int kind, int k, int lane, int i, int n) {
        String call = "hull(" + kind + ", " + k + ", " + lane + ", " + i + ", " + n + ")";
        due(run + call, x.hull(kind, k, lane, i, n), y.hull(kind, k, lane, i, n));
    }

    private String someText() {
        StringBuilder text = new StringBuilder();
        int words = 1 + random.nextInt(4);
        for (int w = 0; w < words; w++) {
            text.append(w == 0 ? "" : "+");
            int factors = 1 + random.nextInt(3);
            for (int f = 0; f < factors; f++) {
                text.append(f == 0 ? "" : "*");
                text.append(random.nextInt(3) == 0 ? "" + (1 + random.nextInt(random.nextBoolean() ? 9 : 99))
                    : "" + "LBMADHSK".charAt(random.nextInt(8)));
            }
            text.append(random.nextInt(3) == 0 ? "/" + (2 + random.nextInt(8)) : "");
            text.append(random.nextInt(3) == 0 ? "<" + random.nextInt(random.nextBoolean() ? 60 : 1000) : "");
        }
        if (random.nextInt(2) == 0) {
            spoil(text);
        }
        return text.substring(0, Math.min(58, text.length()));
    }

    private void spoil(StringBuilder text) {
        char code = CODES.charAt(random.nextInt(CODES.length()));
        int place = random.nextInt(text.length());
        switch (random.nextInt(4)) {
            case 0 -> text.setCharAt(place, code);
            case 1 -> text.insert(place, code);
            case 2 -> text.deleteCharAt(place);
            default -> text.setLength(place);
        }
    }

    private void layLaw() {
        String text = someText();
        int k = random.nextInt(4);
        int lane = random.nextInt(3);
        int from = random.nextInt(3);
        sheet(k, lane, from + text.length());
        for (int i = 0; i < text.length(); i++) {
            put(k, from + i, text.charAt(i));
        }
        int sheet = some(k, k);
        int as = some(lane, lane);
        int i = some(from, from);
        int n = some(text.length(), text.length());
        String call = "law(" + sheet + ", " + as + ", " + i + ", " + n + ") of " + text;
        due(run + call, x.law(sheet, as, i, n), y.law(sheet, as, i, n));
    }

    private void ofHulls() {
        int h = someHull();
        int k = some(0, 4);
        int what = some(0, 1);
        int v = some(1, 9);
        int measure = some(0, 10);
        String of = run + "hull " + h + ", " + k + ", " + what + ", " + v + ", " + measure + ": ";
        switch (random.nextInt(7)) {
            case 0 -> due(of + "ofHull", x.ofHull(h, measure), y.ofHull(h, measure));
            case 1 -> due(of + "station", x.station(h, k, what), y.station(h, k, what));
            case 2 -> due(of + "build", x.build(h, k, what, v), y.build(h, k, what, v));
            case 3 -> due(of + "risk", x.risk(h, what), y.risk(h, what));
            case 4 -> due(of + "tell", x.tell(h), y.tell(h));
            case 5 -> due(of + "launch", x.launch(h), y.launch(h));
            default -> due(of + "as", x.as(h, k), y.as(h, k));
        }
    }

    private void needs() {
        int what = some(0, 5);
        int[] most = {8, 8, 9, 60, 9, 99};
        int v = what < 0 || what > 5 ? 0 : random.nextInt(3) == 0 ? some(0, most[what]) : some(most[what] / 2, most[what]);
        if (what == 3 && random.nextBoolean()) {
            v = some(0, 8);
        }
        due(run + "need(" + what + ", " + v + ")", x.need(what, v), y.need(what, v));
        int h = someHull();
        int part = some(0, 1);
        due(run + "broken(" + h + ", " + part + ")", x.broken(h, part), y.broken(h, part));
    }

    private void ofBoth() {
        int h = someHull();
        int l = someLaw();
        int by = someLawOrNone();
        int what = some(0, 1);
        int w = some(0, 3);
        int f = some(1, 99);
        int many = some(0, 2);
        String of = run + "hull " + h + ", laws " + l + ", " + by + ", " + what + ", " + w + ", " + f + ": ";
        switch (random.nextInt(9)) {
            case 0 -> due(of + "words", x.words(l), y.words(l));
            case 1 -> due(of + "owes", x.owes(h, l), y.owes(h, l));
            case 2 -> due(of + "word", x.word(h, l, w), y.word(h, l, w));
            case 3 -> due(of + "worth", x.worth(h, by), y.worth(h, by));
            case 4 -> due(of + "step", x.step(h, by), y.step(h, by));
            case 5 -> due(of + "trim", x.trim(h, l, what), y.trim(h, l, what));
            case 6 -> due(of + "route", x.route(f, by), y.route(f, by));
            case 7 -> due(of + "paid", x.paid(f, l), y.paid(f, l));
            default -> due(of + "many " + many, x.many(many), y.many(many));
        }
    }

    private void shapes() {
        int n = some(1, 2);
        int m = some(1, 3);
        if (random.nextInt(DEAR_EVERY) == 0) {
            n = some(3, 4);
            m = n == 4 && random.nextInt(4) != 0 ? 2 : m;
        }
        int kind = some(0, 2);
        int l = someLaw();
        int by = someLawOrNone();
        int what = some(0, 3);
        int k = some(0, n >= 1 && n <= 4 ? 2 * n - 1 : 7);
        int w = some(0, 3);
        int v = random.nextInt(4) == 0 ? some(0, 9) : some(0, 60);
        String of = run + n + ", " + m + ", " + kind + ", laws " + l + ", " + by + ", " + what + ", " + k + ", " + w + ", " + v + ": ";
        switch (random.nextInt(7)) {
            case 0 -> due(of + "shapes", x.shapes(n, m, kind), y.shapes(n, m, kind));
            case 1, 2 -> due(of + "best", x.best(n, m, kind, by, what), y.best(n, m, kind, by, what));
            case 3 -> due(of + "shape", x.shape(n, m, kind, by, k), y.shape(n, m, kind, by, k));
            case 4 -> due(of + "without", x.without(n, m, kind, l, w, what), y.without(n, m, kind, l, w, what));
            case 5 -> due(of + "mend", x.mend(n, m, kind, v), y.mend(n, m, kind, v));
            default -> due(of + "crowd", x.crowd(n, m, kind, l, v), y.crowd(n, m, kind, l, v));
        }
    }

    private void sheets() {
        int k = some(0, 3);
        int other = random.nextInt(3) == 0 ? k : some(0, 3);
        int lane = k >= 0 && k < 4 && random.nextBoolean() ? y.lanes[k] : some(0, 2);
        int i = some(0, 12);
        int j = some(0, 12);
        int n = some(0, 8);
        int v = random.nextBoolean() ? random.nextInt() : some(0, 300);
        String of = run + "sheets " + k + ", " + other + ", " + lane + ", " + i + ", " + j + ", " + n + ", " + v + ": ";
        switch (random.nextInt(16)) {
            case 0 -> sheet(k, lane, random.nextInt(6) == 0 ? some(0, 60) : some(5, 20));
            case 1 -> due(of + "lose", x.lose(k), y.lose(k));
            case 2, 3, 4, 5, 6 -> put(k, i, v);
            case 7, 8, 9, 10 -> due(of + "copy", x.copy(k, i, other, j, n), y.copy(k, i, other, j, n));
            case 11 -> hull(some(0, 2), k, lane, i, n);
            case 12 -> due(of + "law", x.law(k, lane, i, n), y.law(k, lane, i, n));
            default -> due(of + "cell", x.cell(k, i, lane), y.cell(k, i, lane));
        }
    }
}
