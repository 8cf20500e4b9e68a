/** Answers that are due: counts them, and prints every one that is not as due. */
final class Answers {
    private final String test;
    private int asDue = 0;
    private int wrong = 0;

    Answers(String test) {
        this.test = test;
    }

    /** The sentence is the document's, the side tells on which side of its boundary the call stands. */
    void due(String sentence, String side, int got, int want) {
        if (got == want) {
            asDue++;
            return;
        }
        wrong++;
        System.out.println(test + ": \"" + sentence + "\": " + side + ": answered " + got + ", due is " + want);
    }

    /** Ends the program with exit code 1 if an answer was not as due. */
    void close() {
        System.out.println(test + ": " + asDue + " answers as due, " + wrong + " not");
        if (wrong != 0) System.exit(1);
    }
}
