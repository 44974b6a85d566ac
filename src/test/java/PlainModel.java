import java.util.ArrayList;
import java.util.Arrays;
import java.util.List;
import java.util.regex.Matcher;
import java.util.regex.Pattern;

/** The document told a second time, as plainly as can be and with no thought of cost, for ModelTest. */
final class PlainModel {
    private static final int UNKNOWN = -1, OUTSIDE = -2, STATE = -3, FULL = -4, NONE = -9;
    private static final long LOST = Long.MIN_VALUE;
    private static final String FACTOR = "(?:[LBMADHSK]|0[1-9]|[1-9][0-9]?)";
    private static final String WORD = FACTOR + "(?:\\*" + FACTOR + "){0,2}(?:/[2-9])?(?:<[0-9]{1,3})?";
    private static final Pattern TEXT = Pattern.compile(WORD + "(?:\\+" + WORD + "){0,3}");

    record Boat(int kind, List<int[]> stations) {
        int sum(int what) {
            return stations.stream().mapToInt(s -> s[what]).sum();
        }

        int greatest(int what) {
            return stations.stream().mapToInt(s -> s[what]).max().orElseThrow();
        }

        int middle(int what) {
            return stations.get(stations.size() / 2)[what];
        }

        int holds() {
            int all = stations.stream().mapToInt(s -> s[0] * s[1]).sum();
            return kind == 0 ? all : all + sum(0);
        }

        int measure(char letter) {
            return switch (letter) {
                case 'L' -> kind == 2 ? Math.max(stations.size() - 2, 0) : stations.size();
                case 'B' -> greatest(0);
                case 'M' -> middle(0);
                case 'A' -> sum(0);
                case 'D' -> greatest(1);
                case 'H' -> middle(1);
                case 'S' -> sum(1);
                default -> kind > 0 ? 1 : 0;
            };
        }

        Boat turned() {
            List<int[]> back = new ArrayList<>();
            for (int[] s : stations) {
                back.add(0, s.clone());
            }
            return new Boat(kind, back);
        }

        Boat changed(int k, int what, int by) {
            List<int[]> other = new ArrayList<>();
            for (int[] s : stations) {
                other.add(s.clone());
            }
            other.get(k)[what] += by;
            return new Boat(kind, other);
        }
    }

    final List<Boat> boats = new ArrayList<>();
    final List<List<String>> laws = new ArrayList<>();
    final int[][] sheets = new int[4][];
    final int[] lanes = new int[4];
    final int[] needs = {8, 8, 9, 0, 1, 10};
    int trace = 0;
    int fault = 0;

    private int faulted(int which) {
        fault = which;
        return -10 - which;
    }

    private boolean hasHull(int h) {
        return 0 <= h && h < boats.size();
    }

    private boolean hasLaw(int l) {
        return 0 <= l && l < laws.size();
    }

    private static boolean among(int v, int from, int to) {
        return from <= v && v <= to;
    }

    private int cellFault(int k, int lane, int i, int n, int times) {
        if (sheets[k] != null && lanes[k] != lane) {
            return 2;
        }
        if (sheets[k] == null) {
            return 1;
        }
        if (n < 0) {
            return 4;
        }
        return among(i, 0, sheets[k].length) && (long) i + (long) times * n <= sheets[k].length ? 0 : 3;
    }

    int hull(int kind, int sheet, int lane, int i, int n) {
        fault = 0;
        if (!among(sheet, 0, 3)) {
            return UNKNOWN;
        }
        if (!among(kind, 0, 2) || !among(lane, 0, 2)) {
            return OUTSIDE;
        }
        int come = cellFault(sheet, lane, i, n, 2);
        if (come != 0) {
            return faulted(come);
        }
        if (!among(n, 1, 8)) {
            return OUTSIDE;
        }
        List<int[]> stations = new ArrayList<>();
        for (int k = 0; k < n; k++) {
            int[] station = {sheets[sheet][i + 2 * k], sheets[sheet][i + 2 * k + 1]};
            if (!among(station[0], 1, 9) || !among(station[1], 1, 9)) {
                return OUTSIDE;
            }
            stations.add(station);
        }
        if (boats.size() == 16) {
            return FULL;
        }
        boats.add(new Boat(kind, stations));
        return boats.size() - 1;
    }

    int ofHull(int h, int what) {
        if (!hasHull(h)) {
            return UNKNOWN;
        }
        if (!among(what, 0, 10)) {
            return OUTSIDE;
        }
        Boat b = boats.get(h);
        if (what < 8) {
            return b.measure("LBMADHSK".charAt(what));
        }
        return what == 8 ? b.holds() : what == 9 ? cost(b) : b.kind();
    }

    int station(int h, int k, int what) {
        if (!hasHull(h) || !among(k, 0, boats.get(h).stations().size() - 1)) {
            return UNKNOWN;
        }
        return among(what, 0, 1) ? boats.get(h).stations().get(k)[what] : OUTSIDE;
    }

    int build(int h, int k, int what, int v) {
        int was = station(h, k, what);
        if (was < 0) {
            return was;
        }
        if (!among(v, 1, 9)) {
            return OUTSIDE;
        }
        boats.get(h).stations().get(k)[what] = v;
        return was;
    }

    /** By the document's own words: the first code with which no TEXT goes on. */
    static int firstFault(String text) {
        for (int p = 1; p <= text.length(); p++) {
            Matcher m = TEXT.matcher(text.substring(0, p));
            if (!m.matches() && !m.hitEnd()) {
                return firstDigit(text, p - 1);
            }
        }
        return TEXT.matcher(text).matches() ? NONE : firstDigit(text, text.length());
    }

    /** A factor that began with 0 and came to nothing: its first digit is the fault. */
    private static int firstDigit(String text, int p) {
        boolean zero = p > 0 && text.charAt(p - 1) == '0';
        boolean begins = p == 1 || p > 1 && "+*".indexOf(text.charAt(p - 2)) >= 0;
        return zero && begins ? p - 1 : p;
    }

    int law(int sheet, int lane, int i, int n) {
        fault = 0;
        if (!among(sheet, 0, 3)) {
            return UNKNOWN;
        }
        if (!among(lane, 0, 2)) {
            return OUTSIDE;
        }
        int come = cellFault(sheet, lane, i, n, 1);
        if (come != 0) {
            return faulted(come);
        }
        StringBuilder text = new StringBuilder();
        for (int c = i; c < i + n; c++) {
            text.append(among(sheets[sheet][c], 1, 127) ? (char) sheets[sheet][c] : '?');
        }
        int first = firstFault(text.toString());
        if (first != NONE) {
            return -100 - first;
        }
        if (laws.size() == 8) {
            return FULL;
        }
        laws.add(Arrays.asList(text.toString().split("\\+")));
        return laws.size() - 1;
    }

    int words(int l) {
        return hasLaw(l) ? laws.get(l).size() : UNKNOWN;
    }

    static int makes(Boat b, String word) {
        String[] capped = word.split("<");
        String[] divided = capped[0].split("/");
        int product = 1;
        for (String factor : divided[0].split("\\*")) {
            product *= Character.isDigit(factor.charAt(0)) ? Integer.parseInt(factor) : b.measure(factor.charAt(0));
        }
        if (divided.length > 1) {
            product /= Integer.parseInt(divided[1]);
        }
        return capped.length > 1 ? Math.min(product, Integer.parseInt(capped[1])) : product;
    }

    static int owed(Boat b, List<String> law) {
        return law.stream().mapToInt(w -> makes(b, w)).sum();
    }

    int owes(int h, int l) {
        return hasHull(h) && hasLaw(l) ? owed(boats.get(h), laws.get(l)) : UNKNOWN;
    }

    int word(int h, int l, int w) {
        if (!hasHull(h) || !hasLaw(l) || !among(w, 0, laws.get(l).size() - 1)) {
            return UNKNOWN;
        }
        return makes(boats.get(h), laws.get(l).get(w));
    }

    int need(int what, int v) {
        if (!among(what, 0, 5)) {
            return UNKNOWN;
        }
        int least = what == 2 || what == 5 ? 1 : 0;
        int most = new int[] {8, 8, 9, 999, 9, 99}[what];
        if (!among(v, least, most)) {
            return OUTSIDE;
        }
        int was = needs[what];
        needs[what] = v;
        return was;
    }

    private int[] breach(Boat b) {
        List<int[]> s = b.stations();
        for (int need = 0; need < 4; need++) {
            for (int k = 0; k < s.size(); k++) {
                boolean end = k == 0 || k == s.size() - 1;
                boolean bad = switch (need) {
                    case 0 -> k + 1 < s.size() && Math.abs(s.get(k)[0] - s.get(k + 1)[0]) > needs[0];
                    case 1 -> s.get(k)[1] > s.get(k)[0] + needs[1];
                    case 2 -> end && s.get(k)[0] > needs[2];
                    default -> b.holds() < needs[3];
                };
                if (bad) {
                    return new int[] {need, k};
                }
            }
        }
        return null;
    }

    int broken(int h, int what) {
        if (!hasHull(h)) {
            return UNKNOWN;
        }
        if (!among(what, 0, 1)) {
            return OUTSIDE;
        }
        int[] found = breach(boats.get(h));
        return found == null ? NONE : found[what];
    }

    private int cost(Boat b) {
        return needs[4] * (b.sum(0) + 2 * b.sum(1));
    }

    private int worthBy(Boat b, List<String> law, int freight) {
        return freight * b.holds() - (law == null ? 0 : owed(b, law)) - cost(b);
    }

    private List<String> lawOrNull(int l) {
        return l == NONE ? null : laws.get(l);
    }

    private boolean hasLawOrNone(int l) {
        return l == NONE || hasLaw(l);
    }

    long worth(int h, int l) {
        return hasHull(h) && hasLawOrNone(l) ? worthBy(boats.get(h), lawOrNull(l), needs[5]) : LOST;
    }

    long risk(int h, int which) {
        if (!hasHull(h) || !among(which, 0, 1)) {
            return LOST;
        }
        int upper = 0;
        for (int[] s : boats.get(h).stations()) {
            upper += Math.max(s[1] - s[0], 0);
        }
        int lower = 9 * boats.get(h).stations().size();
        for (int d = lower; d > 1; d--) {
            if (upper % d == 0 && lower % d == 0) {
                upper /= d;
                lower /= d;
            }
        }
        return which == 0 ? upper : lower;
    }

    private List<Boat> all(int n, int m, int kind) {
        List<Boat> found = new ArrayList<>();
        extend(new ArrayList<>(), n, m, kind, found);
        found.removeIf(b -> breach(b) != null);
        return found;
    }

    private static void extend(List<int[]> begun, int n, int m, int kind, List<Boat> found) {
        if (begun.size() == n) {
            found.add(new Boat(kind, new ArrayList<>(begun)));
            return;
        }
        for (int breadth = 1; breadth <= m; breadth++) {
            for (int depth = 1; depth <= m; depth++) {
                begun.add(new int[] {breadth, depth});
                extend(begun, n, m, kind, found);
                begun.remove(begun.size() - 1);
            }
        }
    }

    private Boat bestOf(List<Boat> shapes, List<String> law) {
        Boat best = null;
        for (Boat b : shapes) {
            if (best == null || worthBy(b, law, needs[5]) > worthBy(best, law, needs[5])) {
                best = b;
            }
        }
        return best;
    }

    private int loss(List<Boat> shapes, List<String> law) {
        return worthBy(bestOf(shapes, null), null, needs[5]) - worthBy(bestOf(shapes, law), null, needs[5]);
    }

    private static boolean asTold(int n, int m, int kind) {
        return among(n, 1, 4) && among(m, 1, 3) && among(kind, 0, 2);
    }

    long best(int n, int m, int kind, int l, int what) {
        if (!hasLawOrNone(l) || !asTold(n, m, kind) || !among(what, 0, 3)) {
            return LOST;
        }
        List<Boat> shapes = all(n, m, kind);
        if (shapes.isEmpty()) {
            return LOST;
        }
        List<String> law = lawOrNull(l);
        Boat found = bestOf(shapes, law);
        return switch (what) {
            case 0 -> worthBy(found, law, needs[5]);
            case 1 -> law == null ? 0 : owed(found, law);
            case 2 -> loss(shapes, law);
            default -> found.holds();
        };
    }

    int shape(int n, int m, int kind, int l, int k) {
        if (!hasLawOrNone(l)) {
            return UNKNOWN;
        }
        if (!asTold(n, m, kind)) {
            return OUTSIDE;
        }
        if (!among(k, 0, 2 * n - 1)) {
            return UNKNOWN;
        }
        Boat found = bestOf(all(n, m, kind), lawOrNull(l));
        return found == null ? STATE : found.stations().get(k / 2)[k % 2];
    }

    int shapes(int n, int m, int kind) {
        return asTold(n, m, kind) ? all(n, m, kind).size() : OUTSIDE;
    }

    long without(int n, int m, int kind, int l, int w, int what) {
        if (!hasLaw(l) || !among(w, 0, laws.get(l).size() - 1) || !asTold(n, m, kind) || !among(what, 1, 2)) {
            return LOST;
        }
        List<Boat> shapes = all(n, m, kind);
        if (shapes.isEmpty()) {
            return LOST;
        }
        List<String> rest = new ArrayList<>(laws.get(l));
        rest.remove(w);
        return what == 1 ? owed(bestOf(shapes, rest), rest) : loss(shapes, rest);
    }

    int mend(int n, int m, int kind, int v) {
        if (!asTold(n, m, kind) || v < 0) {
            return OUTSIDE;
        }
        List<Boat> shapes = all(n, m, kind);
        if (shapes.isEmpty()) {
            return STATE;
        }
        int found = NONE;
        for (int l = laws.size() - 1; l >= 0; l--) {
            boolean enough = owed(bestOf(shapes, laws.get(l)), laws.get(l)) >= v;
            if (enough && (found == NONE || loss(shapes, laws.get(l)) <= loss(shapes, laws.get(found)))) {
                found = l;
            }
        }
        return found;
    }

    int crowd(int n, int m, int kind, int l, int v) {
        if (!hasLaw(l)) {
            return UNKNOWN;
        }
        if (!asTold(n, m, kind)) {
            return OUTSIDE;
        }
        return (int) all(n, m, kind).stream().filter(b -> owed(b, laws.get(l)) == v).count();
    }

    int step(int h, int l) {
        if (!hasHull(h) || !hasLawOrNone(l)) {
            return UNKNOWN;
        }
        Boat b = boats.get(h);
        int found = NONE;
        int most = worthBy(b, lawOrNull(l), needs[5]);
        for (int code = 0; code < 100 * b.stations().size(); code++) {
            int k = code / 100;
            int what = code / 10 % 10;
            int more = code % 10;
            if (what > 1 || more > 1) {
                continue;
            }
            Boat other = b.changed(k, what, more == 1 ? 1 : -1);
            boolean sound = among(other.stations().get(k)[what], 1, 9) && breach(other) == null;
            if (sound && worthBy(other, lawOrNull(l), needs[5]) > most) {
                most = worthBy(other, lawOrNull(l), needs[5]);
                found = code;
            }
        }
        return found;
    }

    int trim(int h, int l, int what) {
        if (!hasHull(h) || !hasLaw(l)) {
            return UNKNOWN;
        }
        if (!among(what, 0, 1)) {
            return OUTSIDE;
        }
        int own = owed(boats.get(h), laws.get(l));
        int other = owed(boats.get(h).turned(), laws.get(l));
        return what == 0 ? Math.min(own, other) : other < own ? 1 : 0;
    }

    int route(int f, int l) {
        if (!hasLawOrNone(l)) {
            return UNKNOWN;
        }
        if (!among(f, 1, 99)) {
            return OUTSIDE;
        }
        int found = NONE;
        for (int h = boats.size() - 1; h >= 0; h--) {
            int now = worthBy(boats.get(h), lawOrNull(l), f);
            boolean goes = now > 0 && breach(boats.get(h)) == null;
            if (goes && (found == NONE || now >= worthBy(boats.get(found), lawOrNull(l), f))) {
                found = h;
            }
        }
        return found;
    }

    int paid(int f, int l) {
        if (!hasLaw(l)) {
            return UNKNOWN;
        }
        if (!among(f, 1, 99)) {
            return OUTSIDE;
        }
        int sum = 0;
        for (int freight = 1; freight <= f; freight++) {
            int h = route(freight, l);
            sum += h == NONE ? 0 : owes(h, l);
        }
        return sum;
    }

    int sheet(int k, int lane, int n) {
        fault = 0;
        if (!among(k, 0, 3)) {
            return UNKNOWN;
        }
        if (!among(lane, 0, 2) || n > 60) {
            return OUTSIDE;
        }
        if (n < 0) {
            return faulted(4);
        }
        sheets[k] = new int[n];
        lanes[k] = lane;
        return 1;
    }

    int lose(int k) {
        if (!among(k, 0, 3)) {
            return UNKNOWN;
        }
        int had = sheets[k] == null ? 0 : 1;
        sheets[k] = null;
        return had;
    }

    int put(int k, int i, int v) {
        fault = 0;
        if (!among(k, 0, 3)) {
            return UNKNOWN;
        }
        if (sheets[k] == null) {
            return faulted(1);
        }
        if (!among(i, 0, sheets[k].length - 1)) {
            return faulted(3);
        }
        int bits = new int[] {24, 16, 0}[lanes[k]];
        sheets[k][i] = v << bits >> bits;
        return 1;
    }

    long cell(int k, int i, int lane) {
        fault = 0;
        if (!among(k, 0, 3) || !among(lane, 0, 2)) {
            return LOST;
        }
        if (sheets[k] == null) {
            fault = 1;
        } else if (lanes[k] != lane) {
            fault = 2;
        } else if (!among(i, 0, sheets[k].length - 1)) {
            fault = 3;
        }
        return fault == 0 ? sheets[k][i] : LOST;
    }

    int copy(int k, int i, int other, int j, int n) {
        fault = 0;
        if (!among(k, 0, 3) || !among(other, 0, 3)) {
            return UNKNOWN;
        }
        if (sheets[k] == null || sheets[other] == null) {
            return faulted(1);
        }
        if (lanes[k] != lanes[other]) {
            return faulted(2);
        }
        if (i < 0 || j < 0 || n < 0 || (long) i + n > sheets[k].length || (long) j + n > sheets[other].length) {
            return faulted(3);
        }
        int[] were = Arrays.copyOfRange(sheets[k], i, i + n);
        for (int c = 0; c < n; c++) {
            sheets[other][j + c] = were[c];
        }
        return n;
    }

    private void leave(int... bodies) {
        for (int body : bodies) {
            trace = 31 * trace + body;
        }
    }

    int tell(int h) {
        if (!hasHull(h)) {
            return UNKNOWN;
        }
        int n = boats.get(h).stations().size();
        switch (boats.get(h).kind()) {
            case 0 -> leave(1);
            case 1 -> leave(2, 1);
            default -> leave(3, 2, 1, 1);
        }
        return new int[] {n, n + 100, 2 * n + 100}[boats.get(h).kind()];
    }

    int launch(int h) {
        if (!hasHull(h)) {
            return UNKNOWN;
        }
        boolean own = boats.get(h).kind() == 2;
        leave(own ? 5 : 4);
        return own ? 90 : h;
    }

    int as(int h, int kind) {
        fault = 0;
        if (!hasHull(h)) {
            return UNKNOWN;
        }
        if (!among(kind, 0, 2)) {
            return OUTSIDE;
        }
        return boats.get(h).kind() >= kind ? 1 : faulted(2);
    }

    int many(int what) {
        return switch (what) {
            case 0 -> boats.size();
            case 1 -> laws.size();
            case 2 -> laws.stream().mapToInt(List::size).sum();
            default -> OUTSIDE;
        };
    }
}
