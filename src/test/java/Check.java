/** Counts what was due and what came, and ends a test with exit code 1 if something was wrong. */
final class Check {
    private final String name;
    private int right = 0;
    private int wrong = 0;

    Check(String name) {
        this.name = name;
    }

    void due(String call, long got, long want) {
        if (got == want) {
            right++;
        } else {
            wrong++;
            System.out.println(name + ": " + call + " answered " + got + ", due is " + want);
        }
    }

    void due(String call, boolean holds) {
        due(call, holds ? 1 : 0, 1);
    }

    void refused(String call, BlowerBreath x, int got, int finding) {
        due(call, got, BlowerBreath.FINDING);
        due(call + ", finding()", x.finding(), finding);
    }

    int right() {
        return right;
    }

    int wrong() {
        return wrong;
    }

    void end() {
        System.out.println(name + ": " + right + " right, " + wrong + " wrong");
        if (wrong != 0 || right == 0) {
            System.exit(1);
        }
    }
}
