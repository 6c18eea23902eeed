/** Holds answers against what is due, each under the sentence of the document that asks for it. */
final class Due {
    private static final int TOLD_AT_MOST = 40;

    private int answers = 0;
    private int wrong = 0;
    private String sentence = "";

    /** What follows is asked by these words of the document. */
    void asks(String words) {
        sentence = words;
    }

    void is(String call, long want, long got) {
        same(call, Long.toString(want), Long.toString(got));
    }

    void same(String call, String want, String got) {
        answers++;
        if (!want.equals(got)) {
            wrong++;
            if (wrong <= TOLD_AT_MOST) {
                System.out.println("\"" + sentence + "\": " + call + " answered " + got + ", due is " + want);
            }
        }
    }

    void fraction(String call, long above, long below, long gotAbove, long gotBelow) {
        same(call, above + " / " + below, gotAbove + " / " + gotBelow);
    }

    /** Ends the test: with exit code 1, if an answer was not as due. */
    void end() {
        System.out.println(answers + " answers at the bounds, " + wrong + " not as due");
        if (wrong != 0) System.exit(1);
    }
}
