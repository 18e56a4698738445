/** Counts answers that are not the ones that are due, and ends a test by that count. */
final class Due {
    private int looked = 0;
    private int wrong = 0;
    private int sentences = 0;
    private String sentence = "";

    /** The answers looked at from here on are due by this sentence of the document. */
    void by(String next) {
        sentences++;
        sentence = "[" + next + "] ";
    }

    void same(String call, int got, int want) {
        looked++;
        if (got != want) {
            wrong++;
            System.out.println(sentence + call + " answered " + got + ", due is " + want);
        }
    }

    void same(String call, boolean got, boolean want) {
        same(call, got ? 1 : 0, want ? 1 : 0);
    }

    boolean allRight() {
        return wrong == 0;
    }

    void end() {
        String by = sentences == 0 ? "" : ", by " + sentences + " sentences";
        System.out.println(looked + " answers looked at" + by + ", " + wrong + " not as due");
        if (wrong != 0) {
            System.exit(1);
        }
    }
}
