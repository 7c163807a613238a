/** Compares answers with the ones that are due, prints those that are not, and ends a test. */
final class Due {
    private int wrong = 0;
    private int asked = 0;
    private String subject = "";

    /** The answers from here on are due by this sentence of the document, in a call of this promise. */
    void about(int promise, String sentence) {
        subject = "promise " + promise + ", \"" + sentence + "\": ";
    }

    void is(String call, long got, long want) {
        asked++;
        if (got != want) {
            wrong++;
            System.out.println(subject + call + " answered " + got + ", due is " + want);
        }
    }

    void isText(String what, String got, String want) {
        asked++;
        if (!got.equals(want)) {
            wrong++;
            System.out.println(subject + what + " is " + got + ", due is " + want);
        }
    }

    void isTrue(String what, boolean holds) {
        asked++;
        if (!holds) {
            wrong++;
            System.out.println(subject + "not so: " + what);
        }
    }

    boolean hasWrong() {
        return wrong > 0;
    }

    void end() {
        System.out.println(asked + " answers, " + wrong + " not as due");
        if (wrong > 0 || asked == 0) {
            System.exit(1);
        }
    }
}
