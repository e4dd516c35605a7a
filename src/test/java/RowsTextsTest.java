/** Promises 1 to 10: a new object, rows, texts and their faults. */
public final class RowsTextsTest {
    private static final Check C = new Check("RowsTexts");

    public static void main(String[] args) {
        newObject();
        row();
        layAndAt();
        tear();
        copy();
        mean();
        text();
        put();
        faults();
        faultRefused();
        C.end();
    }

    private static void newObject() {
        BlowerBreath x = new BlowerBreath();
        for (int what = 0; what <= 13; what++) {
            C.due("1 count(" + what + ")", x.count(what), 0);
        }
        for (int f = 1; f <= 5; f++) {
            C.due("1 findings(" + f + ")", x.findings(f), 0);
        }
        C.due("1 finding()", x.finding(), 0);
        C.due("1 asked()", x.asked(), 0);
        C.due("1 upper()", x.upper(), 0);
        C.due("1 lower()", x.lower(), 1);
        for (int r = 0; r < 6; r++) {
            C.refused("1 tear(" + r + ")", x, x.tear(r), Towns.NOTHING);
        }
        for (int t = 0; t < 4; t++) {
            C.refused("1 fault(" + t + ")", x, x.fault(t), Towns.NOTHING);
        }
        for (int k = 0; k < 3; k++) {
            C.refused("1 on(" + k + ")", x, x.on(k), Towns.NOTHING);
        }
        C.due("1 pipe(0, 0)", x.pipe(0, 0), BlowerBreath.BAD);
        C.due("1 hour()", x.hour(), BlowerBreath.STATE);
    }

    private static void row() {
        BlowerBreath x = new BlowerBreath();
        C.due("2 row(0, 0)", x.row(0, 0), 0);
        C.due("2 row(5, 40)", x.row(5, 40), 40);
        C.due("2 count(11)", x.count(11), 2);
        C.due("2 row(5, 41)", x.row(5, 41), BlowerBreath.BAD);
        C.due("2 row(6, 1)", x.row(6, 1), BlowerBreath.BAD);
        C.due("2 row(-1, 1)", x.row(-1, 1), BlowerBreath.BAD);
        C.due("2 row(6, -1): BAD ahead of SIZE", x.row(6, -1), BlowerBreath.BAD);
        C.due("2 BAD is no FINDING", x.finding(), 0);
        x.lay(5, 39, 7);
        C.refused("2 row(5, -1)", x, x.row(5, -1), Towns.SIZE);
        C.refused("2 row(4, least)", x, x.row(4, Integer.MIN_VALUE), Towns.SIZE);
        C.due("2 refused: the row stays", Towns.asked(x, x.at(5, 39)), 7);
        C.due("2 refused: no row comes", x.count(11), 2);
        C.due("2 row(5, 40) anew", x.row(5, 40), 40);
        C.due("2 at(5, 39) is 0 anew", Towns.asked(x, x.at(5, 39)), 0);
        Towns.fill(x, 1, 4, 5, 6);
        x.row(1, 1);
        x.row(1, 3);
        C.due("2 smaller, larger again: 0", Towns.asked(x, x.at(1, 2)), 0);
    }

    private static void layAndAt() {
        BlowerBreath x = new BlowerBreath();
        x.row(2, 3);
        C.due("3 lay(2, 0, 9)", x.lay(2, 0, 9), 1);
        C.due("3 what it was", x.asked(), 0);
        C.due("3 lay(2, 0, -5)", Towns.asked(x, x.lay(2, 0, -5)), 9);
        C.due("4 at(2, 0)", Towns.asked(x, x.at(2, 0)), -5);
        x.lay(2, 2, Integer.MIN_VALUE);
        C.due("4 at(2, 2)", Towns.asked(x, x.at(2, 2)), Integer.MIN_VALUE);
        C.due("4 at(2, 1)", Towns.asked(x, x.at(2, 1)), 0);
        x.at(2, 0);
        int[] beyond = {-1, 3, 40, Integer.MAX_VALUE, Integer.MIN_VALUE};
        for (int i : beyond) {
            C.refused("3 lay(2, " + i + ", 1)", x, x.lay(2, i, 1), Towns.BEYOND);
            C.refused("4 at(2, " + i + ")", x, x.at(2, i), Towns.BEYOND);
        }
        C.refused("3 lay(0, 0, 1)", x, x.lay(0, 0, 1), Towns.NOTHING);
        C.refused("4 at(0, -1): NOTHING ahead of BEYOND", x, x.at(0, -1), Towns.NOTHING);
        int[] bad = {-1, 6, Integer.MAX_VALUE, Integer.MIN_VALUE};
        for (int r : bad) {
            C.due("3 lay(" + r + ", 0, 1)", x.lay(r, 0, 1), BlowerBreath.BAD);
            C.due("4 at(" + r + ", 0)", x.at(r, 0), BlowerBreath.BAD);
        }
        C.due("39 what is refused tells nothing", x.asked(), -5);
    }

    private static void tear() {
        BlowerBreath x = new BlowerBreath();
        x.row(3, 2);
        C.due("5 tear(3)", x.tear(3), 1);
        C.due("5 count(11)", x.count(11), 0);
        C.refused("5 tear(3) again", x, x.tear(3), Towns.NOTHING);
        C.refused("5 at(3, 0)", x, x.at(3, 0), Towns.NOTHING);
        C.due("5 tear(6)", x.tear(6), BlowerBreath.BAD);
        C.due("5 tear(-1)", x.tear(-1), BlowerBreath.BAD);
    }

    private static void copy() {
        BlowerBreath x = new BlowerBreath();
        Towns.fill(x, 0, 1, 2, 3, 4, 5);
        Towns.fill(x, 1, 0, 0, 0);
        C.due("6 copy(0, 2, 1, 0, 3)", x.copy(0, 2, 1, 0, 3), 1);
        rowIs(x, 1, 3, 4, 5);
        C.due("6 copy onto itself, upward", x.copy(0, 0, 0, 1, 4), 1);
        rowIs(x, 0, 1, 1, 2, 3, 4);
        Towns.fill(x, 0, 1, 2, 3, 4, 5);
        C.due("6 copy onto itself, downward", x.copy(0, 1, 0, 0, 4), 1);
        rowIs(x, 0, 2, 3, 4, 5, 5);
        C.due("6 none, at the ends", x.copy(0, 5, 1, 3, 0), 1);
        int[][] beyond = {
            {0, 6, 1, 0, 0}, {0, 0, 1, 4, 0}, {0, -1, 1, 0, 1}, {0, 0, 1, -1, 1}, {0, 3, 1, 0, 3},
            {0, 0, 1, 1, 3}, {0, 0, 1, 0, 4}, {0, Integer.MAX_VALUE, 1, 0, 2}, {0, 0, 1, 0, Integer.MAX_VALUE},
            {0, 0, 1, Integer.MAX_VALUE, 1}, {0, Integer.MIN_VALUE, 1, 0, 1}};
        for (int[] a : beyond) {
            String call = "6 copy(" + a[0] + ", " + a[1] + ", " + a[2] + ", " + a[3] + ", " + a[4] + ")";
            C.refused(call, x, x.copy(a[0], a[1], a[2], a[3], a[4]), Towns.BEYOND);
        }
        C.refused("6 from a missing one", x, x.copy(2, 9, 0, 0, 1), Towns.NOTHING);
        C.refused("6 to a missing one", x, x.copy(0, 0, 2, 9, 1), Towns.NOTHING);
        C.refused("6 SIZE ahead of NOTHING", x, x.copy(2, 0, 3, 0, -1), Towns.SIZE);
        C.refused("6 SIZE ahead of BEYOND", x, x.copy(0, 9, 1, 9, Integer.MIN_VALUE), Towns.SIZE);
        C.due("6 BAD from", x.copy(6, 0, 0, 0, -1), BlowerBreath.BAD);
        C.due("6 BAD to", x.copy(0, 0, -1, 0, 1), BlowerBreath.BAD);
        rowIs(x, 0, 2, 3, 4, 5, 5);
        rowIs(x, 1, 3, 4, 5);
    }

    private static void rowIs(BlowerBreath x, int r, int... values) {
        for (int i = 0; i < values.length; i++) {
            C.due("6 at(" + r + ", " + i + ")", Towns.asked(x, x.at(r, i)), values[i]);
        }
    }

    private static void mean() {
        BlowerBreath x = new BlowerBreath();
        Towns.fill(x, 0, 1, 2, 5);
        C.due("7 mean of 1, 2, 5", Towns.asked(x, x.mean(0)), 2);
        Towns.fill(x, 0, -1, -2, -5);
        C.due("7 mean of -1, -2, -5, cut", Towns.asked(x, x.mean(0)), -2);
        Towns.fill(x, 0, Integer.MAX_VALUE, Integer.MAX_VALUE, Integer.MAX_VALUE - 3);
        C.due("7 mean of great ones", Towns.asked(x, x.mean(0)), Integer.MAX_VALUE - 1);
        Towns.fill(x, 0, Integer.MIN_VALUE, Integer.MIN_VALUE);
        C.due("7 mean of least ones", Towns.asked(x, x.mean(0)), Integer.MIN_VALUE);
        Towns.fill(x, 0, -1, 0);
        C.due("7 mean of -1, 0", Towns.asked(x, x.mean(0)), 0);
        x.row(0, 40);
        x.lay(0, 39, 120);
        C.due("7 mean of forty", Towns.asked(x, x.mean(0)), 3);
        x.row(0, 0);
        C.refused("7 mean of none", x, x.mean(0), Towns.NOUGHT);
        x.tear(0);
        C.refused("7 mean of a missing one", x, x.mean(0), Towns.NOTHING);
        C.due("7 mean(6)", x.mean(6), BlowerBreath.BAD);
        C.due("7 mean(-1)", x.mean(-1), BlowerBreath.BAD);
    }

    private static void text() {
        BlowerBreath x = new BlowerBreath();
        C.due("8 text(0, 60)", x.text(0, 60), 60);
        C.due("8 text(3, 0)", x.text(3, 0), 0);
        C.due("8 count(12)", x.count(12), 2);
        C.due("8 a blank", x.put(0, 59, 97), 1032);
        C.due("8 text(0, 61)", x.text(0, 61), BlowerBreath.BAD);
        C.due("8 text(4, 1)", x.text(4, 1), BlowerBreath.BAD);
        C.due("8 text(-1, -1)", x.text(-1, -1), BlowerBreath.BAD);
        C.refused("8 text(0, -1)", x, x.text(0, -1), Towns.SIZE);
        C.due("8 refused: it stays", x.put(0, 59, 98), 1097);
        C.due("8 text(0, 60) anew", x.text(0, 60), 60);
        C.due("8 blanks anew", x.put(0, 59, 99), 1032);
    }

    private static void put() {
        BlowerBreath x = new BlowerBreath();
        x.text(1, 2);
        C.due("9 put(1, 0, 300)", x.put(1, 0, 300), 1032);
        C.due("9 300 was cut to 44", x.put(1, 0, -1), 1044);
        C.due("9 -1", x.put(1, 0, 200), 999);
        C.due("9 200 was cut to -56", x.put(1, 0, 128), 944);
        C.due("9 128 was cut to -128", x.put(1, 0, 127), 872);
        C.due("9 127", x.put(1, 0, 0), 1127);
        C.refused("9 put(1, 2, 0)", x, x.put(1, 2, 0), Towns.BEYOND);
        C.refused("9 put(1, -1, 0)", x, x.put(1, -1, 0), Towns.BEYOND);
        C.refused("9 put(1, most, 0)", x, x.put(1, Integer.MAX_VALUE, 0), Towns.BEYOND);
        C.refused("9 put(0, 9, 0)", x, x.put(0, 9, 0), Towns.NOTHING);
        C.due("9 put(4, 0, 0)", x.put(4, 0, 0), BlowerBreath.BAD);
        C.due("9 put(-1, 0, 0)", x.put(-1, 0, 0), BlowerBreath.BAD);
        C.due("39 put tells nothing by asked()", x.asked(), 0);
    }

    private static void faults() {
        fault("a105p03", -9);
        fault("  a105  p03 s12   ", -9);
        fault("a000b09", -9);
        fault("a609l09", -9);
        fault("a105p03s12b14t02o22l41", -9);
        fault("a105p01p12p23p34p45p56", -9);
        fault("", 0);
        fault("   ", 3);
        fault("a", 1);
        fault("a1", 2);
        fault("a10", 3);
        fault("a105", 4);
        fault("a105   ", 7);
        fault("a105p", 5);
        fault("a105p0", 6);
        fault("a105p03s", 8);
        fault("b105p03", 0);
        fault("  x", 2);
        fault("A105p03", 0);
        fault("ax05p03", 1);
        fault("a1x5p03", 2);
        fault("a10xp03", 3);
        fault("a605p03", -9);
        fault("a615p03", 1);
        fault("  a995p03", 3);
        fault("a61", 1);
        fault("a7x5p03", 2);
        fault("a7", 2);
        fault("a 105p03", 1);
        fault("a1 05p03", 2);
        fault("a10 5p03", 3);
        fault("a105x03", 4);
        fault("a105P03", 4);
        fault("a105a105", 4);
        fault("a105 3", 5);
        fault("a105p 03", 5);
        fault("a105p0 3", 6);
        fault("a105p13", 5);
        fault("a105p03s13", -9);
        fault("a105p03s23", 8);
        fault("a105p03 s13 b33", 13);
        fault("a105px3", 5);
        fault("a105p00", 6);
        fault("a105p0x", 6);
        fault("a105p03\0", 7);
        fault("a105p03\u00ff", 7);
        fault("a105p03\t", 7);
        fault("a105p01p01p01p01p01p01p01", 22);
        fault("a105p01p01p01p01p01p01  x", 24);
        fault("a105p01p01p01p01p01p01  p61", 24);
    }

    private static void fault(String text, int place) {
        BlowerBreath x = new BlowerBreath();
        Towns.write(x, 2, text);
        C.due("10 fault of '" + text + "'", x.fault(2), place);
        C.due("10 again '" + text + "'", x.fault(2), place);
        C.due("10 no town by it", x.count(0), 0);
        C.due("10 no FINDING", x.finding(), 0);
    }

    private static void faultRefused() {
        BlowerBreath x = new BlowerBreath();
        C.due("10 fault(4)", x.fault(4), BlowerBreath.BAD);
        C.due("10 fault(-1)", x.fault(-1), BlowerBreath.BAD);
        C.refused("10 fault(1)", x, x.fault(1), Towns.NOTHING);
        x.text(1, 60);
        C.due("10 sixty blanks", x.fault(1), 60);
    }
}
