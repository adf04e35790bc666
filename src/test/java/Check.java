/** Counts answers, prints the wrong ones, and ends the program with 1 if there was one. */
final class Check {
    private final String test;
    private int answers;
    private int wrong;
    private String where = "";

    Check(String test) {
        this.test = test;
    }

    void at(String place) {
        where = place;
    }

    void due(String call, long got, long want) {
        answers++;
        if (got != want) {
            wrong++;
            System.out.println(test + ": " + where + ": " + call + " answered " + got + ", due is " + want);
        }
    }

    void holds(String what, boolean so) {
        due(what, so ? 1 : 0, 1);
    }

    void finish() {
        System.out.println(test + ": " + answers + " answers, " + wrong + " wrong");
        if (wrong > 0 || answers == 0) {
            System.exit(1);
        }
    }
}
