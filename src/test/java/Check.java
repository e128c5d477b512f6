/** Counts the answers that are not as due, tells each, and ends the program with 1 if there was one. */
final class Check {
    private final String name;
    private String sentence = "";
    private int wrong = 0;
    private int seen = 0;

    Check(String name) {
        this.name = name;
    }

    /** The answers that follow are due by this sentence of the document. */
    void under(String words) {
        sentence = "[" + words + "] ";
    }

    void same(String what, long got, long due) {
        seen++;
        if (got != due) {
            wrong++;
            System.out.println(name + ": " + sentence + what + " answered " + got + ", due is " + due);
        }
    }

    void yes(String what, boolean got) {
        same(what, got ? 1 : 0, 1);
    }

    void no(String what, boolean got) {
        same(what, got ? 1 : 0, 0);
    }

    void end() {
        System.out.println(name + ": " + seen + " answers, " + wrong + " not as due");
        if (wrong != 0 || seen == 0) {
            System.exit(1);
        }
    }
}
