/** Counts and prints the answers that are not the ones that are due. */
final class Answers {
    private int checked;
    private int wrong;
    private String sentence = "";

    /** Runs the test of one sentence of the document; what is wrong is printed behind it. */
    void sentence(String said, Runnable test) {
        int before = checked;
        sentence = "\"" + said + "\": ";
        test.run();
        isTrue("the test of it asks something", checked > before);
        sentence = "";
    }

    void due(String call, long got, long want) {
        checked++;
        if (got != want) {
            wrong++;
            System.out.println(sentence + call + " answered " + got + ", due is " + want);
        }
    }

    void isTrue(String what, boolean holds) {
        due(what, holds ? 1 : 0, 1);
    }

    /** Ends the test with exit code 1 if an answer was wrong, or if nothing was asked. */
    void end() {
        System.out.println(checked + " answers, " + wrong + " of them wrong");
        if (wrong != 0 || checked == 0) {
            System.exit(1);
        }
    }
}
