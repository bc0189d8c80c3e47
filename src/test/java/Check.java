/** Counts the answers that are not due, prints them, and feeds texts. */
final class Check {
    private static final int MOST_PRINTED = 40;

    private int asked;
    private int wrong;

    void due(String call, long got, long want) {
        asked++;
        if (got != want) {
            wrong++;
            if (wrong <= MOST_PRINTED) {
                System.out.println(call + " answered " + got + ", due is " + want);
            }
        }
    }

    void due(String call, boolean got, boolean want) {
        due(call, got ? 1 : 0, want ? 1 : 0);
    }

    int wrong() {
        return wrong;
    }

    /** Ends the program with 1 if an answer was not due. */
    void end() {
        System.out.println(asked + " answers looked at, " + wrong + " of them not as due");
        if (wrong != 0 || asked == 0) {
            System.exit(1);
        }
    }

    /** Feeds a text, twenty bytes at a time; what is too much at the end is taken back. */
    static void feed(NoonRinger x, String text) {
        int[] fours = Oracle.bytesOf(text);
        for (int i = 0; i < fours.length; i += 5) {
            x.feed(fours[i], fours[i + 1], fours[i + 2], fours[i + 3], fours[i + 4]);
        }
        x.back(fours.length * 4 - text.length());
    }

    /** A new object that has read a text, which must be without a fault. */
    static NoonRinger of(String text) {
        NoonRinger x = new NoonRinger();
        feed(x, text);
        int fault = x.read();
        if (fault != 0) {
            throw new IllegalStateException("fault " + fault + " at " + x.place() + " of: " + text);
        }
        return x;
    }
}
