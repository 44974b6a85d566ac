/** What the tests share: answers that are due, and laws and hulls put down by texts and rows. */
final class Check {
    static final long LOST = KeelTolls.LOST;
    static final int NONE = KeelTolls.NONE;
    private static final int SHEET = 3;

    private int wrong = 0;
    private int checked = 0;

    void due(String call, long got, long want) {
        checked++;
        if (got != want) {
            wrong++;
            System.out.println(call + " answered " + got + ", due is " + want);
        }
    }

    /** Ends the test: with exit code 1, if an answer was not as due or none was looked at. */
    void end(String name) {
        System.out.println(name + ": " + checked + " answers, " + wrong + " not as due");
        if (wrong != 0 || checked == 0) {
            System.exit(1);
        }
    }

    /** Answers of a call for several arguments at once are due in a row. */
    void dueAll(String call, long[] got, long... want) {
        due(call + ", how many", got.length, want.length);
        for (int i = 0; i < got.length && i < want.length; i++) {
            due(call + " at " + i, got[i], want[i]);
        }
    }

    /** A hull by its row, through an int sheet that is kept for this. */
    static int hull(KeelTolls x, int kind, int... row) {
        x.sheet(SHEET, 2, row.length);
        for (int i = 0; i < row.length; i++) {
            x.put(SHEET, i, row[i]);
        }
        return x.hull(kind, SHEET, 2, 0, row.length / 2);
    }

    /** A law by its text, through an int sheet that is kept for this. */
    static int law(KeelTolls x, String text) {
        x.sheet(SHEET, 2, text.length());
        for (int i = 0; i < text.length(); i++) {
            x.put(SHEET, i, text.charAt(i));
        }
        return x.law(SHEET, 2, 0, text.length());
    }
}
