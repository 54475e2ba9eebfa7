/** Counts the answers that are not as due, and ends a test with exit code 1 if there was one. */
final class Due {
    private final String test;
    private int answers = 0;
    private int wrong = 0;

    Due(String test) {
        this.test = test;
    }

    void due(String call, long got, long want) {
        answers++;
        if (got != want) {
            wrong++;
            if (wrong <= 50) {
                System.out.println(test + ": " + call + " answered " + got + ", due is " + want);
            }
        }
    }

    void holds(String what, boolean so) {
        due(what, so ? 1 : 0, 1);
    }

    void end() {
        System.out.println(test + ": " + answers + " answers, " + wrong + " not as due");
        if (wrong != 0 || answers == 0) {
            System.exit(1);
        }
    }
}
