/** Counts and prints the answers of one test that are not the ones that are due. */
final class Check {
    private int wrong = 0;
    private int made = 0;
    private String sentence = "";
    private int madeBefore = -1;

    /** Begins the checks of one sentence of the document; they are told with its words. */
    void sentence(String words) {
        closeSentence();
        sentence = "\"" + words + "\": ";
        madeBefore = made;
    }

    /** A sentence without a check would look tested. */
    private void closeSentence() {
        if (made == madeBefore) {
            wrong++;
            System.out.println(sentence + "nothing was checked");
        }
    }

    void due(String what, long got, long want) {
        made++;
        if (got != want) {
            wrong++;
            System.out.println(sentence + what + " answered " + got + ", due is " + want);
        }
    }

    void holds(String what, boolean good) {
        made++;
        if (!good) {
            wrong++;
            System.out.println(sentence + what + " does not hold");
        }
    }

    void end() {
        closeSentence();
        System.out.println(made + " checks, " + wrong + " wrong");
        if (wrong != 0 || made == 0) {
            System.exit(1);
        }
    }
}
