import java.lang.reflect.Method;
import java.util.ArrayList;
import java.util.Comparator;
import java.util.List;
import java.util.Random;

/** Long runs of calls, made up from fixed seeds, each held against the model; also calls with wild numbers. */
public final class ModelTest {
    private static final Check C = new Check("Model");
    private static final int RUNS = 1500;
    private static final int CALLS = 400;
    private static final String LETTERS = "psbtol";

    private final Random random;
    private final BlowerBreath real = new BlowerBreath();
    private final Model model = new Model();
    private final List<String> calls = new ArrayList<>();

    private ModelTest(long seed) {
        random = new Random(seed);
    }

    public static void main(String[] args) throws ReflectiveOperationException {
        List<Method> face = new ArrayList<>();
        for (Method m : BlowerBreath.class.getMethods()) {
            if (m.getDeclaringClass() == BlowerBreath.class) {
                face.add(m);
            }
        }
        face.sort(Comparator.comparing(Method::getName));
        int wrong = 0;
        for (int run = 0; run < RUNS && wrong < 3; run++) {
            wrong += new ModelTest(run).runs(face) ? 0 : 1;
        }
        C.due("runs unlike the model", wrong, 0);
        C.end();
    }

    private boolean runs(List<Method> face) throws ReflectiveOperationException {
        boolean like = writeTown();
        for (int k = 0; like && k < CALLS; k++) {
            int dice = random.nextInt(40);
            if (dice == 0) {
                like = writeTown();
            } else if (dice < 4) {
                like = writeHeard();
            } else if (dice < 10) {
                like = call("hour");
            } else {
                Method m = face.get(random.nextInt(face.size()));
                like = call(m.getName(), arguments(m));
            }
        }
        if (!like) {
            System.out.println(String.join("\n", calls));
        }
        return like;
    }

    private boolean call(String name, int... args) throws ReflectiveOperationException {
        Class<?>[] types = new Class<?>[args.length];
        Object[] given = new Object[args.length];
        StringBuilder told = new StringBuilder(name).append('(');
        for (int k = 0; k < args.length; k++) {
            types[k] = int.class;
            given[k] = args[k];
            told.append(k == 0 ? "" : ", ").append(args[k]);
        }
        long got = ((Number) BlowerBreath.class.getMethod(name, types).invoke(real, given)).longValue();
        long want = ((Number) Model.class.getMethod(name, types).invoke(model, given)).longValue();
        calls.add(told + ") = " + got);
        boolean like = got == want && real.asked() == model.asked() && real.upper() == model.upper()
            && real.lower() == model.lower() && real.finding() == model.finding() && real.digest() == model.digest();
        if (!like) {
            calls.add("the model: " + want + ", asked " + model.asked() + ", " + model.upper() + "/" + model.lower()
                + ", finding " + model.finding() + "; the class: asked " + real.asked() + ", " + real.upper() + "/"
                + real.lower() + ", finding " + real.finding());
        }
        return like;
    }

    private int within(int least, int most) {
        return least + random.nextInt(most - least + 1);
    }

    /** Mostly a number that may be, sometimes one near by, seldom one far off. */
    private int around(int least, int most) {
        int dice = random.nextInt(60);
        if (dice == 0) {
            return random.nextInt();
        }
        if (dice == 1) {
            return random.nextBoolean() ? Integer.MAX_VALUE : Integer.MIN_VALUE;
        }
        return dice < 6 ? within(least - 2, most + 2) : within(least, most);
    }

    private int pipe() {
        return around(0, Math.max(0, real.count(0) - 1));
    }

    private int[] arguments(Method m) {
        switch (m.getName()) {
            case "row":
                return new int[] {around(0, 5), random.nextInt(4) == 0 ? around(0, 40) : around(0, 11)};
            case "lay":
                return new int[] {around(0, 5), around(0, 4), random.nextBoolean() ? within(0, 63) : random.nextInt()};
            case "at":
                return new int[] {around(0, 5), around(0, 4)};
            case "copy":
                return new int[] {around(0, 5), around(0, 4), around(0, 5), around(0, 4), around(0, 4)};
            case "tear":
                return new int[] {random.nextBoolean() ? 5 : around(0, 5)};
            case "mean":
            case "leaks":
            case "listen":
            case "strokes":
                return new int[] {random.nextBoolean() ? 0 : around(0, 5)};
            case "kinds":
                return new int[] {pipe(), random.nextBoolean() ? 0 : around(0, 5)};
            case "text":
                return new int[] {around(1, 3), random.nextInt(4) == 0 ? around(0, 60) : around(0, 12)};
            case "put":
                return new int[] {around(0, 3), around(0, 24), sign()};
            case "fault":
            case "town":
                return new int[] {around(0, 3)};
            case "pipe":
                return new int[] {pipe(), around(0, 7)};
            case "mark":
                return new int[] {pipe(), around(1, 5)};
            case "pump":
                return new int[] {around(-9, 9)};
            case "stroke":
                return new int[] {around(0, 9)};
            case "undo":
                return new int[] {around(real.count(4) / 2, real.count(4))};
            case "keep":
            case "on":
            case "duel":
                return new int[] {around(0, 2)};
            case "wants":
                return new int[] {pipe(), around(1, 9), around(0, 99)};
            case "air":
                return new int[] {around(0, 40)};
            case "says":
                return new int[] {pipe(), around(0, 40)};
            case "hard":
                return new int[] {around(0, (1 << real.count(0)) - 1), around(1, 20)};
            case "sets":
            case "sure":
                return new int[] {random.nextInt(8) == 0 ? around(0, 99) : around(0, 30)};
            case "odds":
                return new int[] {pipe(), around(0, 12)};
            case "mid":
                return new int[] {around(0, 12)};
            case "lots":
                return new int[] {around(1, 20), around(1, 2147483000)};
            case "count":
                return new int[] {around(0, 13)};
            case "findings":
                return new int[] {around(1, 5)};
            default:
                return m.getParameterCount() == 0 ? new int[0] : new int[] {pipe()};
        }
    }

    private int sign() {
        String signs = " apsbtol0123456789";
        return random.nextInt(10) == 0 ? random.nextInt(600) - 300 : signs.charAt(random.nextInt(signs.length()));
    }

    private String blanks() {
        return " ".repeat(random.nextInt(3) == 0 ? within(0, 3) : 0);
    }

    private boolean writeTown() throws ReflectiveOperationException {
        StringBuilder b = new StringBuilder(blanks()).append('a');
        int air = random.nextInt(20) == 0 ? within(0, 99) : within(0, 60);
        b.append((char) ('0' + air / 10)).append((char) ('0' + air % 10)).append((char) ('0' + within(0, 9)));
        int pipes = random.nextInt(20) == 0 ? within(0, 7) : within(1, 6);
        for (int i = 0; i < pipes; i++) {
            b.append(blanks()).append(LETTERS.charAt(random.nextInt(6))).append((char) ('0' + within(0, i)));
            b.append((char) ('0' + (random.nextInt(40) == 0 ? 0 : within(1, random.nextBoolean() ? 9 : 3))));
        }
        b.append(blanks());
        for (int k = random.nextInt(3) == 0 ? 2 : 0; k > 0; k--) {
            b.setCharAt(random.nextInt(b.length()), (char) (sign() & 255));
        }
        if (random.nextInt(8) == 0) {
            b.setLength(random.nextInt(b.length() + 1));
        }
        int t = within(0, 3);
        boolean like = call("text", t, Math.min(60, b.length()));
        for (int i = 0; like && i < Math.min(60, b.length()); i++) {
            like = call("put", t, i, b.charAt(i));
        }
        return like && call("fault", t) && call("town", t);
    }

    /** A row that can be: who speaks in the hours to come, by other leaks or another stroke than now. */
    private boolean writeHeard() throws ReflectiveOperationException {
        int n = within(1, 10);
        int deeds = real.count(4);
        if (real.count(0) == 0 || deeds + n + 2 > 40) {
            return true;
        }
        boolean like = call("keep", 0);
        like &= random.nextBoolean() ? call("leak", pipe()) : call("stroke", within(0, 9));
        int[] spoke = new int[n];
        for (int k = 0; k < n; k++) {
            spoke[k] = model.hour();
            like &= real.hour() == spoke[k];
        }
        like = like && call("on", 0) && call("row", 0, n);
        for (int k = 0; like && k < n; k++) {
            like = call("lay", 0, k, spoke[k]);
        }
        return like && call("leaks", 0) && call("listen", 0) && call("strokes", 0) && call("kinds", within(0, 5), 0);
    }
}
