/** Counts answers that are not as due, for the tests of this project. */
final class Checks {
    private final String test;
    private String sentence = "";
    private int askedOfSentence = 1;
    private int asked = 0;
    private int wrong = 0;

    Checks(String test) {
        this.test = test;
    }

    /** The words of the document by which the answers from here on are due. */
    void sentence(String words) {
        seeThatSentenceWasAsked();
        sentence = " \"" + words + "\":";
        askedOfSentence = 0;
    }

    void due(String call, long got, long want) {
        due(call, Long.toString(got), Long.toString(want));
    }

    void due(String call, boolean got, boolean want) {
        due(call, Boolean.toString(got), Boolean.toString(want));
    }

    void due(String call, String got, String want) {
        asked++;
        askedOfSentence++;
        if (!got.equals(want)) {
            wrong++;
            System.out.println(
                    test + ":" + sentence + " " + call + " answered " + got + ", due is " + want);
        }
    }

    int wrong() {
        return wrong;
    }

    void end() {
        seeThatSentenceWasAsked();
        System.out.println(test + ": " + asked + " answers, " + wrong + " not as due");
        if (wrong != 0 || asked == 0) {
            System.exit(1);
        }
    }

    private void seeThatSentenceWasAsked() {
        if (askedOfSentence == 0) {
            wrong++;
            System.out.println(test + ":" + sentence + " nothing was asked");
        }
    }
}
