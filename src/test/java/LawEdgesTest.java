/** The boundaries that part 2 of the Terms and promises 6 to 9 name. */
public final class LawEdgesTest {
    private static final Edges EDGES = new Edges();
    private static final int UNKNOWN = Edges.UNKNOWN, OUTSIDE = Edges.OUTSIDE, FULL = Edges.FULL;
    private static final String LONGEST = "99*99*99/9<999+99*99*99/9<999+99*99*99/9<999+99*99*99/9<999";

    public static void main(String[] args) {
        eightEver();
        oneToFourWords();
        oneToThreeFactors();
        divisors();
        limits();
        numbersOfFactors();
        endsTooSoon();
        theLongestText();
        firstCodes();
        secondCodes();
        codesAsTheirLaneCutsThem();
        aLawAfterAFault();
        lawUnknownOrOutside();
        lawCastOrNull();
        lawSize();
        lawIndex();
        lawFull();
        wordsBounds();
        owesBounds();
        wordBounds();
        whatWordsMake();
        leastAndGreatestOwed();
        EDGES.end("LawEdgesTest");
    }

    /** A text that is a law of so many words. */
    private static void stands(String text, int words) {
        Run run = new Run();
        EDGES.same("law " + text, run.law(text), 0);
        EDGES.due(run, words, "words", 0);
        EDGES.due(run, 1, "many", 1);
        EDGES.due(run, words, "many", 2);
    }

    /** A text with a first fault, also where a law could not be taken any more. */
    private static void faultAt(String text, int place) {
        Edges.Setup setup = run -> {
            Edges.FLEET.on(run);
            run.layText(3, 2, text);
        };
        EDGES.refused(setup, -100 - place, 0, "law", 3, 2, 0, text.length());
        Edges.Setup full = run -> {
            Edges.ALL_LAWS.on(run);
            run.layText(3, 0, text);
        };
        EDGES.refused(full, -100 - place, 0, "law", 3, 0, 0, text.length());
    }

    private static void eightEver() {
        EDGES.sentence("LAWS, 8 ever, numbered as they come");
        Run run = new Run();
        run.layText(0, 0, "L+B+D+S");
        int words = 0;
        for (int l = 0; l < 8; l++) {
            EDGES.due(run, UNKNOWN, "words", l);
            EDGES.due(run, l, "law", 0, 0, 0, 1 + 2 * (l % 4));
            EDGES.due(run, 1 + l % 4, "words", l);
            EDGES.due(run, l + 1, "many", 1);
            words += 1 + l % 4;
            EDGES.due(run, words, "many", 2);
        }
        for (int again = 0; again < 3; again++) {
            EDGES.due(run, FULL, "law", 0, 0, 0, 1);
            EDGES.due(run, 8, "many", 1);
            EDGES.due(run, 20, "many", 2);
            EDGES.due(run, UNKNOWN, "words", 8);
        }
    }

    private static void oneToFourWords() {
        EDGES.sentence("1 to 4 words with + between");
        stands("L", 1);
        stands("L+B", 2);
        stands("L+B+D", 3);
        stands("L+B+D+S", 4);
        faultAt("", 0);
        faultAt("L+B+D+S+", 7);
        faultAt("L+B+D+S+K", 7);
        faultAt("L+B+D+S/2+K", 9);
        faultAt("L+B+D+S<9+K", 9);
        faultAt("+", 0);
        faultAt("+L", 0);
        faultAt("L++B", 2);
        faultAt("L B", 1);
    }

    private static void oneToThreeFactors() {
        EDGES.sentence("a word: 1 to 3 factors with * between");
        stands("L*B", 1);
        stands("L*B*D", 1);
        stands("1*2*3", 1);
        stands("L*B*D+L*B*D+L*B*D+L*B*D", 4);
        faultAt("L*B*D*S", 5);
        faultAt("L*B*D*", 5);
        faultAt("1*2*3*4", 5);
        faultAt("L+L*B*D*S", 7);
        faultAt("L+L+L+L*B*D*S", 11);
        faultAt("*", 0);
        faultAt("*L", 0);
        faultAt("L**B", 2);
        faultAt("L+*B", 2);
        faultAt("LB", 1);
        faultAt("L*BD", 3);
    }

    private static void divisors() {
        EDGES.sentence("then perhaps / and a digit 2 .. 9");
        for (char digit = '0'; digit <= '9'; digit++) {
            if (digit >= '2') {
                stands("L/" + digit, 1);
                stands("L*B*D/" + digit + "+B/" + digit, 2);
            } else {
                faultAt("L/" + digit, 2);
                faultAt("L+B*D/" + digit, 6);
            }
        }
        faultAt("L/10", 2);
        faultAt("L/20", 3);
        faultAt("L/99", 3);
        faultAt("L/B", 2);
        faultAt("L//2", 2);
        faultAt("L/2/2", 3);
        faultAt("L/2*B", 3);
        faultAt("L/2B", 3);
        faultAt("/2", 0);
        faultAt("L*/2", 2);
    }

    private static void limits() {
        EDGES.sentence("then perhaps a sign < and a number 0 .. 999 (at most so much), of one to three digits");
        for (String number : new String[] {"0", "1", "9", "10", "99", "100", "999", "00", "000", "007", "099"}) {
            stands("L<" + number, 1);
            stands("L/2<" + number + "+B", 2);
            faultAt("L<" + number + "L", 2 + number.length());
        }
        faultAt("L<1000", 5);
        faultAt("L<9999", 5);
        faultAt("L<0000", 5);
        faultAt("L+B<1000", 7);
        faultAt("L<-1", 2);
        faultAt("L<B", 2);
        faultAt("L<<5", 2);
        faultAt("L<5<5", 3);
        faultAt("L<5/2", 3);
        faultAt("L<5*B", 3);
        faultAt("<5", 0);
    }

    private static void numbersOfFactors() {
        EDGES.sentence("a factor: a MEASURE's letter, or a number 1 .. 99, of one or two digits");
        for (char letter : "LBMADHSK".toCharArray()) {
            stands("" + letter, 1);
        }
        for (String number : new String[] {"1", "9", "10", "99", "01", "09"}) {
            stands(number, 1);
            stands("L*" + number + "*B", 1);
            faultAt(number + "L", number.length());
        }
        faultAt("100", 2);
        faultAt("999", 2);
        faultAt("010", 2);
        faultAt("L*100", 4);
        faultAt("L*B*100", 6);
        faultAt("L+100", 4);
        faultAt("L5", 1);
        EDGES.sentence("of a number that is not as told its first digit");
        faultAt("0", 0);
        faultAt("00", 0);
        faultAt("000", 0);
        faultAt("0*L", 0);
        faultAt("0L", 0);
        faultAt("00+L", 0);
        faultAt("L*0", 2);
        faultAt("L*00", 2);
        faultAt("L*B*0", 4);
        faultAt("L*B*00/2", 4);
        faultAt("L+B+D+0", 6);
    }

    private static void endsTooSoon() {
        EDGES.sentence("how many codes there are, if it just ends too soon");
        String text = "L*B/2+D<99";
        for (int n = 0; n <= text.length(); n++) {
            char last = n == 0 ? '+' : text.charAt(n - 1);
            if ("*/+<".indexOf(last) >= 0) {
                faultAt(text.substring(0, n), n);
            } else {
                stands(text.substring(0, n), n < 7 ? 1 : 2);
            }
        }
        faultAt("L+B+D+", 6);
        faultAt("L+B+D+S*", 8);
        faultAt("L+B+D+S/", 8);
        faultAt("L+B+D+S<", 8);
        faultAt("L/2<", 4);
    }

    private static void theLongestText() {
        EDGES.sentence("the longest TEXT: 4 words of 3 factors with / and <, all numbers of the most digits");
        stands(LONGEST, 4);
        for (char last : new char[] {'9', '+', '*', '/', '<', 'L'}) {
            Run run = new Run();
            run.layText(0, 0, LONGEST + last);
            EDGES.dueWithFault(run, -159, 0, "law", 0, 0, 0, 60);
            EDGES.dueWithFault(run, 0, 0, "law", 0, 0, 0, 59);
            EDGES.dueWithFault(run, 1, 0, "law", 0, 0, 0, 58);
        }
    }

    private static void firstCodes() {
        EDGES.sentence("Codes: with which a TEXT begins, and no others");
        String begins = "LBMADHSK123456789";
        for (int code = -130; code <= 300; code++) {
            Run run = new Run();
            run.lay(0, 2, code);
            boolean asTold = code > 0 && begins.indexOf(code) >= 0;
            EDGES.dueWithFault(run, asTold ? 0 : -100, 0, "law", 0, 2, 0, 1);
            EDGES.due(run, asTold ? 1 : 0, "many", 1);
        }
    }

    private static void secondCodes() {
        EDGES.sentence("Codes: with which a TEXT goes on behind a letter, and no others");
        for (int code = -130; code <= 300; code++) {
            Run run = new Run();
            run.lay(0, 2, 'L', code);
            boolean goesOn = code > 0 && "+*/<".indexOf(code) >= 0;
            EDGES.dueWithFault(run, goesOn ? -102 : -101, 0, "law", 0, 2, 0, 2);
        }
        EDGES.sentence("Codes: with which a TEXT goes on behind * / <, and no others");
        for (int code = -130; code <= 300; code++) {
            boolean digit = code >= '0' && code <= '9';
            boolean letter = code > 0 && "LBMADHSK".indexOf(code) >= 0;
            Run run = new Run();
            run.lay(0, 2, 'L', '*', code);
            EDGES.due(run, letter || digit && code != '0' ? 0 : -102, "law", 0, 2, 0, 3);
            run.call("put", 0, 1, '/');
            EDGES.due(run, digit && code >= '2' ? run.call("many", 1) : -102, "law", 0, 2, 0, 3);
            run.call("put", 0, 1, '<');
            EDGES.due(run, digit ? run.call("many", 1) : -102, "law", 0, 2, 0, 3);
        }
    }

    private static void codesAsTheirLaneCutsThem() {
        EDGES.sentence("what comes to a cell is cut to its LANE: so is a code");
        int[] wraps = {256, 65536};
        for (int lane = 0; lane < 2; lane++) {
            Run run = new Run();
            run.lay(0, lane, 'L' + wraps[lane], '*' - wraps[lane], '9' + wraps[lane]);
            EDGES.due(run, 0, "law", 0, lane, 0, 3);
            run.hull(0, 1, 1, 1, 1);
            EDGES.due(run, 18, "owes", 0, 0);
            EDGES.due(run, 2, "ofHull", 0, 0);
        }
        Run ints = new Run();
        ints.lay(0, 2, 'L', '*' + 256, 'L' + 65536);
        EDGES.due(ints, -101, "law", 0, 2, 0, 2);
        EDGES.due(ints, -100, "law", 0, 2, 2, 1);
        EDGES.due(ints, 0, "law", 0, 2, 0, 1);
    }

    private static void aLawAfterAFault() {
        EDGES.sentence("REFUSALS change nothing: a LAW that comes after a TEXT with a FIRST FAULT is as if there was none");
        String[] faults = {"9*8*7/2<5+9*8*7/2<5+9*8*7/2<5+9*8*7/2<5+", "L*B*D/2<5+L*B*D/2<5+L*B*D/2<5+L*B*D/2<5*",
            "S*7*7/", "S*S*S<", "S*S*S*S"};
        for (String fault : faults) {
            Run run = new Run();
            run.hull(0, 7, 5);
            EDGES.same("law " + fault, run.law(fault) <= -100 ? 1 : 0, 1);
            EDGES.same("law B+D+99+B*D", run.law("B+D+99+B*D"), 0);
            int[] words = {7, 5, 99, 35};
            for (int w = 0; w < 4; w++) {
                EDGES.due(run, words[w], "word", 0, 0, w);
            }
            EDGES.same("law " + fault + ", again", run.law(fault) <= -100 ? 1 : 0, 1);
            EDGES.same("law D", run.law("D"), 1);
            EDGES.due(run, 5, "owes", 0, 1);
            EDGES.due(run, 1, "words", 1);
            EDGES.due(run, 146, "owes", 0, 0);
        }
    }

    private static void lawUnknownOrOutside() {
        EDGES.sentence("Promise 6: UNKNOWN; it comes ahead of all else");
        for (int sheet : new int[] {Edges.LEAST_INT, -1, 4, Edges.GREATEST_INT}) {
            EDGES.refused(Edges.FLEET, UNKNOWN, 0, "law", sheet, 0, 0, 1);
            EDGES.refused(Edges.FLEET, UNKNOWN, 0, "law", sheet, 3, -1, -1);
        }
        EDGES.sentence("Promise 6: OUTSIDE: lane; ahead of CAST, NULL, SIZE, INDEX, -100 less it");
        for (int lane : new int[] {Edges.LEAST_INT, -1, 3, Edges.GREATEST_INT}) {
            for (int sheet = 0; sheet < 4; sheet++) {
                EDGES.refused(Edges.FLEET, OUTSIDE, 0, "law", sheet, lane, 0, 1);
            }
            EDGES.refused(Edges.FLEET, OUTSIDE, 0, "law", 0, lane, 0, 2);
            EDGES.refused(Edges.FLEET, OUTSIDE, 0, "law", 0, lane, -1, 1);
            EDGES.refused(Edges.FLEET, OUTSIDE, 0, "law", 0, lane, 0, -1);
        }
    }

    private static void lawCastOrNull() {
        EDGES.sentence("Promise 6: CAST; ahead of SIZE, INDEX, -100 less it");
        for (int sheet = 0; sheet < 3; sheet++) {
            for (int lane = 0; lane < 3; lane++) {
                if (lane != sheet) {
                    EDGES.refused(Edges.FLEET, -12, Edges.CAST, "law", sheet, lane, 0, 1);
                    EDGES.refused(Edges.FLEET, -12, Edges.CAST, "law", sheet, lane, 0, -1);
                    EDGES.refused(Edges.FLEET, -12, Edges.CAST, "law", sheet, lane, -1, 0);
                }
            }
        }
        EDGES.sentence("Promise 6: NULL; ahead of SIZE, INDEX, -100 less it");
        for (int lane = 0; lane < 3; lane++) {
            EDGES.refused(Edges.FLEET, -11, Edges.NULL, "law", 3, lane, 0, 0);
            EDGES.refused(Edges.FLEET, -11, Edges.NULL, "law", 3, lane, 0, -1);
            EDGES.refused(Edges.FLEET, -11, Edges.NULL, "law", 3, lane, -1, 0);
        }
    }

    private static void lawSize() {
        EDGES.sentence("Promise 6: SIZE (a length below 0); ahead of INDEX");
        for (int n : new int[] {-1, -10, Edges.LEAST_INT}) {
            EDGES.refused(Edges.FLEET, -14, Edges.SIZE, "law", 0, 0, 0, n);
            EDGES.refused(Edges.FLEET, -14, Edges.SIZE, "law", 0, 0, -1, n);
            EDGES.refused(Edges.FLEET, -14, Edges.SIZE, "law", 0, 0, 11, n);
        }
        EDGES.refused(Edges.FLEET, -100, 0, "law", 0, 0, 0, 0);
    }

    private static void lawIndex() {
        EDGES.sentence("Promise 6: INDEX; ahead of -100 less it");
        int[][] beyond = {{-1, 1}, {10, 1}, {0, 11}, {1, 10}, {9, 2}, {Edges.LEAST_INT, 1}, {Edges.GREATEST_INT, 1},
            {1, Edges.GREATEST_INT}, {10, Edges.GREATEST_INT}, {Edges.GREATEST_INT, Edges.GREATEST_INT}};
        for (int[] b : beyond) {
            EDGES.refused(Edges.FLEET, -13, Edges.INDEX, "law", 0, 0, b[0], b[1]);
        }
        int[][] within = {{0, 10}, {9, 1}, {8, 2}, {2, 8}, {0, 1}};
        for (int[] w : within) {
            Run run = new Run();
            Edges.FLEET.on(run);
            EDGES.dueWithFault(run, 4, 0, "law", 0, 0, w[0], w[1]);
        }
        EDGES.sentence("INDEX: also where i is not 0 .. how many there are, if none of them is taken, too");
        for (int i : new int[] {Edges.LEAST_INT, -1, 11, Edges.GREATEST_INT}) {
            EDGES.refused(Edges.FLEET, -13, Edges.INDEX, "law", 0, 0, i, 0);
        }
        for (int i : new int[] {0, 9, 10}) {
            EDGES.refused(Edges.FLEET, -100, 0, "law", 0, 0, i, 0);
        }
    }

    private static void lawFull() {
        EDGES.sentence("Promise 6: FULL; all else comes ahead of it");
        EDGES.refused(Edges.ALL_LAWS, FULL, 0, "law", 0, 0, 0, 1);
        EDGES.refused(Edges.ALL_LAWS, FULL, 0, "law", 0, 0, 0, 10);
        EDGES.refused(Edges.ALL_LAWS, UNKNOWN, 0, "law", 4, 0, 0, 1);
        EDGES.refused(Edges.ALL_LAWS, OUTSIDE, 0, "law", 0, 3, 0, 1);
        EDGES.refused(Edges.ALL_LAWS, -12, Edges.CAST, "law", 0, 1, 0, 1);
        EDGES.refused(Edges.ALL_LAWS, -11, Edges.NULL, "law", 3, 0, 0, 1);
        EDGES.refused(Edges.ALL_LAWS, -14, Edges.SIZE, "law", 0, 0, 0, -1);
        EDGES.refused(Edges.ALL_LAWS, -13, Edges.INDEX, "law", 0, 0, 10, 1);
        EDGES.refused(Edges.ALL_LAWS, -100, 0, "law", 0, 0, 0, 0);
        EDGES.refused(Edges.ALL_LAWS, -102, 0, "law", 0, 0, 0, 2);
        EDGES.refused(Edges.ALL_LAWS, -100, 0, "law", 0, 0, 1, 1);
    }

    private static void wordsBounds() {
        EDGES.sentence("Promise 7: UNKNOWN");
        for (int l : new int[] {Edges.LEAST_INT, Edges.NONE, -1, 4, 8, Edges.GREATEST_INT}) {
            EDGES.kept(Edges.FLEET, UNKNOWN, "words", l);
        }
        int[] words = {1, 2, 1, 4, 1, 1, 1, 2};
        for (int l = 0; l < 8; l++) {
            EDGES.kept(Edges.ALL_LAWS, words[l], "words", l);
        }
        EDGES.kept(Edges.ALL_LAWS, UNKNOWN, "words", 8);
    }

    private static void owesBounds() {
        EDGES.sentence("Promise 8: UNKNOWN: there is no such HULL, no such LAW; NONE is no LAW here");
        for (int beyond : new int[] {Edges.LEAST_INT, Edges.NONE, -1, Edges.GREATEST_INT}) {
            EDGES.kept(Edges.FLEET, UNKNOWN, "owes", beyond, 0);
            EDGES.kept(Edges.FLEET, UNKNOWN, "owes", 0, beyond);
            EDGES.kept(Edges.FLEET, UNKNOWN, "owes", beyond, beyond);
        }
        EDGES.kept(Edges.FLEET, UNKNOWN, "owes", 3, 0);
        EDGES.kept(Edges.FLEET, UNKNOWN, "owes", 0, 4);
        EDGES.kept(Edges.FLEET, 30, "owes", 0, 0);
        EDGES.kept(Edges.FLEET, 37 + 36 + 1 + 6, "owes", 2, 3);
    }

    private static void wordBounds() {
        EDGES.sentence("Promise 9: UNKNOWN: HULL, LAW, word");
        for (int beyond : new int[] {Edges.LEAST_INT, Edges.NONE, -1, Edges.GREATEST_INT}) {
            EDGES.kept(Edges.FLEET, UNKNOWN, "word", beyond, 0, 0);
            EDGES.kept(Edges.FLEET, UNKNOWN, "word", 0, beyond, 0);
            EDGES.kept(Edges.FLEET, UNKNOWN, "word", 0, 0, beyond);
        }
        EDGES.kept(Edges.FLEET, UNKNOWN, "word", 3, 0, 0);
        EDGES.kept(Edges.FLEET, UNKNOWN, "word", 0, 4, 0);
        int[] words = {1, 2, 1, 4};
        for (int l = 0; l < 4; l++) {
            EDGES.kept(Edges.FLEET, UNKNOWN, "word", 0, l, words[l]);
            EDGES.kept(Edges.FLEET, UNKNOWN, "word", 2, l, words[l]);
        }
        EDGES.kept(Edges.FLEET, 30, "word", 0, 0, 0);
        EDGES.kept(Edges.FLEET, 45, "word", 0, 1, 0);
        EDGES.kept(Edges.FLEET, 40, "word", 0, 1, 1);
        EDGES.kept(Edges.FLEET, 6, "word", 2, 3, 3);
    }

    /** What a law of one word makes of a hull of one station, breadth 7 and depth 5. */
    private static void makes(String text, int want) {
        Run run = new Run();
        run.hull(0, 7, 5);
        run.law(text);
        EDGES.same("word of " + text, run.call("word", 0, 0, 0), want);
        EDGES.same("owes by " + text, run.call("owes", 0, 0), want);
    }

    private static void whatWordsMake() {
        EDGES.sentence("the quotient of the product by it: cut (towards 0)");
        makes("B*D/2", 17);
        makes("B*D/5", 7);
        makes("B*D/6", 5);
        makes("B*D/9", 3);
        makes("L/2", 0);
        makes("8/9", 0);
        makes("9/9", 1);
        makes("17/9", 1);
        makes("18/9", 2);
        makes("K/2", 0);
        makes("B/2", 3);
        EDGES.sentence("< and a number (at most so much)");
        makes("B*D<34", 34);
        makes("B*D<35", 35);
        makes("B*D<36", 35);
        makes("B*D<0", 0);
        makes("B*D<00", 0);
        makes("B*D<1", 1);
        makes("99*99<999", 999);
        makes("37*27<999", 999);
        makes("B*D<007", 7);
        EDGES.sentence("first the quotient, then at most so much");
        makes("B*D/2<16", 16);
        makes("B*D/2<17", 17);
        makes("B*D/2<18", 17);
        EDGES.sentence("a number 1 .. 99: what it makes");
        makes("1", 1);
        makes("01", 1);
        makes("9", 9);
        makes("10", 10);
        makes("99", 99);
        makes("B*01*99", 693);
    }

    private static void leastAndGreatestOwed() {
        EDGES.sentence("OWES: the sum of its words: the least and the greatest that there is");
        Run run = new Run();
        run.hull(2, 9, 9);
        run.law("L*99*99+L+L/2+99<0");
        EDGES.due(run, 0, "owes", 0, 0);
        run.law("99*99*99+99*99*99+99*99*99+99*99*99");
        EDGES.due(run, 4 * 970299, "owes", 0, 1);
        for (int w = 0; w < 4; w++) {
            EDGES.due(run, 0, "word", 0, 0, w);
            EDGES.due(run, 970299, "word", 0, 1, w);
        }
        EDGES.due(run, 10 * 90 - 3881196 - 27, "worth", 0, 1);
        Run greatest = new Run();
        greatest.hull(0, 9, 9, 9, 9, 9, 9, 9, 9, 9, 9, 9, 9, 9, 9, 9, 9);
        greatest.law("A*S*A");
        EDGES.due(greatest, 72 * 72 * 72, "owes", 0, 0);
    }
}
