/** Tests of a part of the document, each with the words that it stands for (Says); EdgesTest runs them. */
abstract class Edges {
    static final int NOTHING = Towns.NOTHING, BEYOND = Towns.BEYOND, UNLIKE = Towns.UNLIKE, NOUGHT = Towns.NOUGHT;
    static final int SIZE = Towns.SIZE, NONE = BlowerBreath.NONE;
    static final int LEAST = Integer.MIN_VALUE, MOST = Integer.MAX_VALUE;
    /** A PIPE of each KIND, as its number is: wanting 3, 2, 4, 3, 2, 4. */
    static final String ALL_KINDS = "a105 p03s12b14t02o22l41";
    private Check check = new Check("Edges");

    final void begin(Check ofTheTest) {
        check = ofTheTest;
    }

    final Run run() {
        return new Run(check);
    }

    final Run town(String signs) {
        return run().town(signs);
    }

    final void due(String what, long got, long want) {
        check.due(what, got, want);
    }
}
