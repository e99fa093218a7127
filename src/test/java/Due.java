/** Counts the answers that are not the due ones, and ends a test. */
final class Due {
    private final String test;
    private String sentence = "";
    private int wrong;
    private int asked;

    Due(String test) {
        this.test = test;
    }

    /** The words of the document that the answers from here on are held against. */
    void sentence(String words) {
        sentence = " \"" + words + "\"";
    }

    void is(String what, long got, long want) {
        asked++;
        if (got != want) {
            wrong++;
            if (wrong <= 50) {
                System.out.println(test + sentence + ": " + what + " answered " + got + ", due is " + want);
            }
        }
    }

    void is(String what, boolean got, boolean want) {
        is(what, got ? 1 : 0, want ? 1 : 0);
    }

    boolean allWell() {
        return wrong == 0;
    }

    void end() {
        System.out.println(test + ": " + asked + " answers, " + wrong + " wrong");
        if (wrong != 0) {
            System.exit(1);
        }
    }
}
