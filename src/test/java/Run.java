import java.lang.reflect.Method;
import java.util.Arrays;

/** One object in a test and what is due of its calls, told by name; no more calls than the document allows. */
final class Run {
    static final int LEAST = Integer.MIN_VALUE, MOST = Integer.MAX_VALUE;
    private static final int CALLS_MOST = 512;
    private final Check check;
    private final BlowerBreath x = new BlowerBreath();
    private int calls = 0;

    Run(Check check) {
        this.check = check;
    }

    int calls() {
        return calls;
    }

    long call(String name, int... args) {
        Class<?>[] types = new Class<?>[args.length];
        Object[] given = new Object[args.length];
        for (int k = 0; k < args.length; k++) {
            types[k] = int.class;
            given[k] = args[k];
        }
        calls++;
        if (calls == CALLS_MOST + 1) {
            check.due("calls of one object", calls, CALLS_MOST);
        }
        try {
            Method m = BlowerBreath.class.getMethod(name, types);
            return ((Number) m.invoke(x, given)).longValue();
        } catch (ReflectiveOperationException e) {
            throw new IllegalStateException(told(name, args), e);
        }
    }

    private static String told(String name, int... args) {
        String list = Arrays.toString(args);
        return name + "(" + list.substring(1, list.length() - 1) + ")";
    }

    // ---- what a test needs ahead of what it asks

    Run does(String name, int... args) {
        long got = call(name, args);
        boolean granted = got >= 0 || name.equals("digest");
        check.due(told(name, args) + " is granted", granted);
        return this;
    }

    Run times(int n, String name, int... args) {
        for (int k = 0; k < n; k++) {
            does(name, args);
        }
        return this;
    }

    Run text(int t, String signs) {
        does("text", t, signs.length());
        for (int i = 0; i < signs.length(); i++) {
            does("put", t, i, signs.charAt(i));
        }
        return this;
    }

    Run town(String signs) {
        return text(0, signs).does("town", 0);
    }

    Run row(int r, int... values) {
        does("row", r, values.length);
        for (int i = 0; i < values.length; i++) {
            does("lay", r, i, values[i]);
        }
        return this;
    }

    // ---- what is due

    Run gives(long want, String name, int... args) {
        check.due(told(name, args), call(name, args), want);
        return this;
    }

    /** What it answers, and what asked() tells then. */
    Run givesAndTells(long want, int told, String name, int... args) {
        gives(want, name, args);
        check.due("asked() behind " + told(name, args), call("asked"), told);
        return this;
    }

    /** The answer is 1, and asked() tells then. */
    Run tells(int told, String name, int... args) {
        return givesAndTells(1, told, name, args);
    }

    /** The answer is 1, and upper() by lower() is told then. */
    Run shares(long upper, long lower, String name, int... args) {
        gives(1, name, args);
        check.due("upper() behind " + told(name, args), call("upper"), upper);
        check.due("lower() behind " + told(name, args), call("lower"), lower);
        return this;
    }

    Run counts(int want, int what) {
        return gives(want, "count", what);
    }

    Run fact(int want, int i, int what) {
        return tells(want, "pipe", i, what);
    }

    Run bad(String name, int... args) {
        return refuses(BlowerBreath.BAD, 0, name, args);
    }

    Run full(String name, int... args) {
        return refuses(BlowerBreath.FULL, 0, name, args);
    }

    Run state(String name, int... args) {
        return refuses(BlowerBreath.STATE, 0, name, args);
    }

    Run finds(int finding, String name, int... args) {
        return refuses(BlowerBreath.FINDING, finding, name, args);
    }

    /** NONE is no refusal, but tells nothing either. */
    Run none(String name, int... args) {
        return refuses(BlowerBreath.NONE, 0, name, args);
    }

    /** Nothing but finding() and findings() may be another one then, and these by a FINDING alone. */
    private Run refuses(int want, int finding, String name, int... args) {
        long[] due = all();
        if (finding > 0) {
            due[4] = finding;
            due[4 + finding]++;
        }
        gives(want, name, args);
        long[] got = all();
        String[] names = {
            "digest()", "asked()", "upper()", "lower()", "finding()", "findings(1)", "findings(2)", "findings(3)",
            "findings(4)", "findings(5)"};
        for (int k = 0; k < due.length; k++) {
            check.due(names[k] + " behind " + told(name, args), got[k], due[k]);
        }
        return this;
    }

    private long[] all() {
        return new long[] {
            call("digest"), call("asked"), call("upper"), call("lower"), call("finding"), call("findings", 1),
            call("findings", 2), call("findings", 3), call("findings", 4), call("findings", 5)};
    }

    /** The TOWN, the ROWS and the TEXTS are as they were behind these calls. */
    Run aside(Runnable asking) {
        long before = call("digest");
        asking.run();
        check.due("digest() behind what is asked aside", call("digest"), before);
        return this;
    }
}
