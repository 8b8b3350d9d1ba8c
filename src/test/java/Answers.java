/** Counts and prints the answers that are not the ones that are due. */
final class Answers {
    private int checked;
    private int wrong;

    void due(String call, long got, long want) {
        checked++;
        if (got != want) {
            wrong++;
            System.out.println(call + " answered " + got + ", due is " + want);
        }
    }

    void isTrue(String what, boolean holds) {
        due(what, holds ? 1 : 0, 1);
    }

    /** Ends the test with exit code 1 if an answer was wrong, or if nothing was asked. */
    void end() {
        System.out.println(checked + " answers, " + wrong + " of them wrong");
        if (wrong != 0 || checked == 0) {
            System.exit(1);
        }
    }
}
