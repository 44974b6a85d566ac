/** Promises 6 to 9: law, words, owes, word. */
public final class LawsTest {
    private static final Check CHECK = new Check();

    public static void main(String[] args) {
        textsThatStand();
        firstFaults();
        numbersOfTexts();
        lawRefusalsInOrder();
        lawFromAPlaceOfEachLane();
        lawFull();
        wordsAndWhatTheyMake();
        refusals();
        CHECK.end("LawsTest");
    }

    private static void textsThatStand() {
        String[] texts = {"L", "99", "1", "B*M*A", "D*H/9", "S*K<0", "L*2*3/2<999",
            "A+A+A+A", "99*99*99/9<999+99*99*99/9<999+99*99*99/9<999+99*99*99/9<999"};
        int[] words = {1, 1, 1, 1, 1, 1, 1, 4, 4};
        for (int t = 0; t < texts.length; t++) {
            KeelTolls x = new KeelTolls();
            CHECK.due(texts[t], Check.law(x, texts[t]), 0);
            CHECK.due("words of " + texts[t], x.words(0), words[t]);
        }
    }

    private static void fault(String text, int place) {
        KeelTolls x = new KeelTolls();
        CHECK.due("law " + text, Check.law(x, text), -100 - place);
        CHECK.due("fault() of " + text, x.fault(), 0);
        CHECK.due("many(1) after " + text, x.many(1), 0);
    }

    private static void firstFaults() {
        fault("", 0);
        fault("+", 0);
        fault("l", 0);
        fault("C", 0);
        fault("L+", 2);
        fault("L*", 2);
        fault("L/", 2);
        fault("L<", 2);
        fault("L/2<", 4);
        fault("LB", 1);
        fault("L5", 1);
        fault("5L", 1);
        fault("L**B", 2);
        fault("L*B*D*S", 5);
        fault("L*B*D/2*S", 7);
        fault("L<5/2", 3);
        fault("L<5<5", 3);
        fault("L<5*5", 3);
        fault("L/2/2", 3);
        fault("L/B", 2);
        fault("L<B", 2);
        fault("L+B+D+S+", 7);
        fault("L+B+D+S+K", 7);
        fault("L+B+D+S*", 8);
        fault("L+B+D+SS", 7);
        fault("L B", 1);
        fault("L+*", 2);
        fault("L+B/2+D<9999", 11);
    }

    private static void numbersOfTexts() {
        fault("0", 0);
        fault("00", 0);
        fault("0L", 0);
        fault("000", 0);
        fault("L*0", 2);
        fault("L*0+B", 2);
        fault("L*00", 2);
        fault("100", 2);
        fault("L*123", 4);
        fault("010", 2);
        fault("L/0", 2);
        fault("L/1", 2);
        fault("L/12", 2);
        fault("L/22", 3);
        fault("L<1000", 5);
        fault("L<0000", 5);
        KeelTolls x = new KeelTolls();
        Check.hull(x, 0, 3, 4);
        CHECK.due("07", Check.law(x, "07"), 0);
        CHECK.due("07 is owed", x.owes(0, 0), 7);
        CHECK.due("99<007", Check.law(x, "99<007"), 1);
        CHECK.due("007 is owed", x.owes(0, 1), 7);
        CHECK.due("99<000", Check.law(x, "99<000"), 2);
        CHECK.due("000 is owed", x.owes(0, 2), 0);
    }

    private static void refused(KeelTolls x, String call, int got, int want, int fault) {
        CHECK.due(call, got, want);
        CHECK.due("fault() of " + call, x.fault(), fault);
        CHECK.due("many(1) after " + call, x.many(1), 0);
    }

    private static void lawRefusalsInOrder() {
        KeelTolls x = new KeelTolls();
        refused(x, "law, sheet 4", x.law(4, 3, -1, -1), -1, 0);
        refused(x, "law, sheet -1", x.law(-1, 3, -1, -1), -1, 0);
        refused(x, "law, lane 3", x.law(0, 3, -1, -1), -2, 0);
        refused(x, "law, lane -1", x.law(0, -1, -1, -1), -2, 0);
        refused(x, "law of nothing", x.law(0, 2, -1, -1), -11, 1);
        x.sheet(0, 1, 3);
        refused(x, "law of another lane", x.law(0, 2, -1, -1), -12, 2);
        refused(x, "law, n below 0", x.law(0, 1, -1, -1), -14, 4);
        refused(x, "law, i below 0", x.law(0, 1, -1, 1), -13, 3);
        refused(x, "law, i beyond, none", x.law(0, 1, 4, 0), -13, 3);
        refused(x, "law, i at the end, none", x.law(0, 1, 3, 0), -100, 0);
        refused(x, "law, n beyond", x.law(0, 1, 2, 2), -13, 3);
        refused(x, "law, n far beyond", x.law(0, 1, 1, Integer.MAX_VALUE), -13, 3);
        refused(x, "law of zeros", x.law(0, 1, 1, 2), -100, 0);
        x.put(0, 1, -1);
        refused(x, "law of a number below 0", x.law(0, 1, 1, 1), -100, 0);
    }

    private static void lawFromAPlaceOfEachLane() {
        String text = "SL*B+DS";
        for (int lane = 0; lane < 3; lane++) {
            KeelTolls x = new KeelTolls();
            x.sheet(2, lane, text.length());
            for (int i = 0; i < text.length(); i++) {
                x.put(2, i, text.charAt(i));
            }
            Check.hull(x, 0, 3, 4, 5, 2);
            CHECK.due("law from 0 on", x.law(2, lane, 0, 7), -101);
            CHECK.due("law from 1 on", x.law(2, lane, 1, 6), -105);
            CHECK.due("law from 1 on, 5 of it", x.law(2, lane, 1, 5), 0);
            CHECK.due("what it makes", x.owes(0, 0), 14);
            x.put(2, 1, 'K');
            CHECK.due("it is no part of the sheet", x.owes(0, 0), 14);
        }
    }

    private static void lawFull() {
        KeelTolls x = new KeelTolls();
        Check.hull(x, 0, 3, 4);
        for (int l = 0; l < 8; l++) {
            CHECK.due("law " + l, Check.law(x, (l + 1) + "+B"), l);
        }
        CHECK.due("law 8", Check.law(x, "L"), -4);
        CHECK.due("law 8, not as told", Check.law(x, "L+"), -102);
        CHECK.due("many(1)", x.many(1), 8);
        CHECK.due("many(2)", x.many(2), 16);
        CHECK.due("words(8)", x.words(8), -1);
        CHECK.due("owes(0, 7)", x.owes(0, 7), 11);
    }

    private static void wordsAndWhatTheyMake() {
        KeelTolls x = new KeelTolls();
        Check.hull(x, 0, 3, 4, 5, 2, 2, 9, 1, 6);
        Check.hull(x, 2, 3, 4, 5, 2, 2, 9, 1, 6);
        CHECK.due("a law", Check.law(x, "L*B*D+M*A/4+H*S<180+K*7/2"), 0);
        long[] first = new long[4];
        long[] second = new long[4];
        for (int w = 0; w < 4; w++) {
            first[w] = x.word(0, 0, w);
            second[w] = x.word(1, 0, w);
        }
        CHECK.dueAll("words of HULL", first, 180, 5, 180, 0);
        CHECK.dueAll("words of RAKED", second, 90, 5, 180, 3);
        CHECK.due("owes(0, 0)", x.owes(0, 0), 365);
        CHECK.due("owes(1, 0)", x.owes(1, 0), 278);
        Check.law(x, "H*S<190");
        CHECK.due("below what is at most", x.owes(0, 1), 189);
        Check.law(x, "99*99*99");
        CHECK.due("the greatest word", x.word(0, 2, 0), 970299);
        Check.law(x, "7*9/8<8");
        CHECK.due("a quotient, cut, below", x.word(0, 3, 0), 7);
        Check.law(x, "8*9/8<8");
        CHECK.due("the quotient is what is at most so much", x.word(0, 4, 0), 8);
    }

    private static void refusals() {
        KeelTolls x = new KeelTolls();
        Check.hull(x, 0, 3, 4);
        Check.law(x, "L+B");
        CHECK.due("words(0)", x.words(0), 2);
        CHECK.due("words(1)", x.words(1), -1);
        CHECK.due("words(-1)", x.words(-1), -1);
        CHECK.due("words(NONE)", x.words(Check.NONE), -1);
        CHECK.due("owes(1, 0)", x.owes(1, 0), -1);
        CHECK.due("owes(0, 1)", x.owes(0, 1), -1);
        CHECK.due("owes(0, NONE)", x.owes(0, Check.NONE), -1);
        CHECK.due("word(1, 0, 0)", x.word(1, 0, 0), -1);
        CHECK.due("word(0, 1, 0)", x.word(0, 1, 0), -1);
        CHECK.due("word(0, 0, 2)", x.word(0, 0, 2), -1);
        CHECK.due("word(0, 0, -1)", x.word(0, 0, -1), -1);
        CHECK.due("word(0, 0, 1)", x.word(0, 0, 1), 3);
    }
}
