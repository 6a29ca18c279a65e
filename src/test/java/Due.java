/** Counts the answers that are not as due, and prints them. */
final class Due {
    private final String test;
    private int asked = 0;
    private int wrong = 0;
    private int sentences = 0;
    private int askedAhead = -1;
    private String sentence = "";

    Due(String test) {
        this.test = test;
    }

    /** The answers that follow hold a sentence of the document: where it stands, and its words. */
    void says(String where, String words) {
        endSentence();
        sentences++;
        askedAhead = asked;
        sentence = " [" + where + ": " + words + "]";
    }

    void due(String call, long got, long want) {
        asked++;
        if (got != want) {
            wrong++;
            System.out.println(test + ": " + call + " answered " + got + ", due is " + want + sentence);
        }
    }

    boolean anyWrong() {
        return wrong > 0;
    }

    void end() {
        endSentence();
        String of = sentences == 0 ? "" : " to " + sentences + " sentences";
        System.out.println(test + ": " + (asked - wrong) + " answers" + of + " as due, " + wrong + " not");
        if (wrong > 0) System.exit(1);
    }

    /** A sentence that asks nothing would pass whatever the class does. */
    private void endSentence() {
        if (asked != askedAhead) return;
        wrong++;
        System.out.println(test + ": nothing was asked" + sentence);
    }
}
