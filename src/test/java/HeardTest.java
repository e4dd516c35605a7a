/** Promises 29 to 32: what can be, by who spoke. */
public final class HeardTest {
    private static final Check C = new Check("Heard");

    public static void main(String[] args) {
        leaks();
        listen();
        strokes();
        kinds();
        refused();
        refusedWithoutPipes();
        C.end();
    }

    private static void leaksAre(BlowerBreath x, int sets, int least, int... spoke) {
        Towns.fill(x, 0, spoke);
        C.due("29 leaks(0)", x.leaks(0), 1);
        C.due("29 the least", x.asked(), least);
        C.due("29 sets", x.upper(), sets);
        C.due("29 lower()", x.lower(), 1);
    }

    private static void leaks() {
        BlowerBreath x = Towns.of("a040p02p02");
        x.odds(0, 5);
        leaksAre(x, 1, 0, 3);
        leaksAre(x, 3, 1, 1);
        leaksAre(x, 0, -9, 0);
        leaksAre(x, 0, -9, 2);
        leaksAre(x, 3, 1, 1, 0);
        leaksAre(x, 1, 0, 3, 0);
        leaksAre(x, 0, -9, 1, 1);
        leaksAre(x, 1, 0, 3, 0, 0, 0, 0, 0, 0, 0, 0, 0);
        x.leak(0);
        leaksAre(x, 1, 0, 3);
        x.cut(1);
        // the leak of one that is cut off is not to be heard
        leaksAre(x, 4, 0, 1);
        BlowerBreath y = Towns.of("a105 p03s12b14t02o22l41");
        leaksAre(y, 42, 1, 15);
        C.due("29 aside", y.count(6), 0);
    }

    private static void listenIs(BlowerBreath x, int pipe, int part, int... spoke) {
        Towns.fill(x, 4, spoke);
        x.at(4, 0);
        int told = x.asked();
        C.due("30 listen(4)", x.listen(4), pipe);
        C.due("30 that part", x.asked(), pipe == BlowerBreath.NONE ? told : part);
    }

    private static void listen() {
        BlowerBreath x = Towns.of("a060p02p02");
        x.odds(0, 1);
        String share = Towns.share(x);
        listenIs(x, 0, 3, 3);
        listenIs(x, -9, 0, 0);
        listenIs(x, 0, 1, 3, 1);
        listenIs(x, 0, 3, 3, 0);
        C.due("30 upper() and lower() stay", Towns.share(x).equals(share));
        listenIs(Towns.of("a105 p03s12b14t02o22l41"), 1, 38, 15);
        // 3 (none leaks), 2 (either), 1 (both) are left: the first speaks by none, and by the second alone
        BlowerBreath y = Towns.of("a079p02p02");
        y.stroke(0);
        listenIs(y, 0, 2, 3);
        // 5, 4, 4, 3 are left: the first speaks always, the second not if both leak
        y.stroke(2);
        listenIs(y, 1, 3, 3);
    }

    private static void strokesAre(BlowerBreath x, int bits, int... spoke) {
        Towns.fill(x, 5, spoke);
        x.at(5, 0);
        C.due("31 strokes(5)", x.strokes(5), bits);
        C.due("39 strokes() tells nothing by asked()", x.asked(), spoke[0]);
    }

    private static void strokes() {
        BlowerBreath x = Towns.of("a005p03");
        strokesAre(x, 1016, 1);
        strokesAre(x, 7, 0);
        strokesAre(x, 4, 0, 1);
        strokesAre(x, 3, 0, 0);
        strokesAre(x, 0, 1, 0);
        strokesAre(x, 1, 0, 0, 0, 0, 0, 0, 0, 0, 0, 0);
        x.leak(0);
        strokesAre(x, 1008, 1);
        C.due("31 aside", x.count(2), 5);
        x.cut(0);
        strokesAre(x, 1023, 0, 0);
    }

    private static void kindsAre(BlowerBreath x, int i, int bits, int... spoke) {
        Towns.fill(x, 1, spoke);
        x.at(1, 0);
        C.due("32 kinds(" + i + ", 1)", x.kinds(i, 1), bits);
        C.due("39 kinds() tells nothing by asked()", x.asked(), spoke[0]);
    }

    private static void kinds() {
        BlowerBreath x = Towns.of("a040p04");
        kindsAre(x, 0, 23, 1);
        kindsAre(x, 0, 40, 0);
        kindsAre(x, 0, 0, 0, 1);
        BlowerBreath y = Towns.of("a030p04p01");
        kindsAre(y, 0, 59, 2);
        kindsAre(y, 0, 4, 0);
        // in hour 2 an old one alone is still, a laugh has not enough
        BlowerBreath z = Towns.of("a305p04");
        kindsAre(z, 0, 16, 1, 1, 0);
        kindsAre(z, 0, 47, 1, 1, 1);
        C.due("32 aside", Towns.fact(z, 0, 0), 0);
        BlowerBreath saved = Towns.of("a030s02");
        saved.hour();
        saved.pump(1);
        kindsAre(saved, 0, 23, 1);
        BlowerBreath saver = Towns.of("a041s02p01");
        // a saver keeps 1 of what the next one wants: 4 + 1 - 2 - 1 - 1, then 1 + 1 - 2
        kindsAre(saver, 0, 18, 3, 1);
    }

    private static void refused() {
        BlowerBreath x = Towns.of("a040p04p01");
        x.odds(0, 5);
        long before = x.digest();
        all(x, 6, 0, BlowerBreath.BAD);
        all(x, -1, 0, BlowerBreath.BAD);
        all(x, 2, Towns.NOTHING, BlowerBreath.FINDING);
        C.due("29 refused: nothing changes", x.digest(), before);
        x.row(2, 0);
        all(x, 2, Towns.SIZE, BlowerBreath.FINDING);
        x.row(2, 11);
        x.lay(2, 0, 4);
        all(x, 2, Towns.SIZE, BlowerBreath.FINDING);
        int[] unlike = {4, -1, 64, Integer.MIN_VALUE, Integer.MAX_VALUE};
        for (int set : unlike) {
            Towns.fill(x, 2, 1, 0, set);
            all(x, 2, Towns.UNLIKE, BlowerBreath.FINDING);
        }
        x.row(2, 10);
        C.due("29 ten are fine", x.leaks(2), 1);
        C.due("32 kinds(2, 2)", x.kinds(2, 2), BlowerBreath.BAD);
        C.due("32 kinds(-1, 2)", x.kinds(-1, 2), BlowerBreath.BAD);
        x.tear(2);
        C.due("32 BAD ahead of NOTHING", x.kinds(2, 2), BlowerBreath.BAD);
    }

    private static void all(BlowerBreath x, int r, int finding, int want) {
        int told = x.asked();
        String share = Towns.share(x);
        int before = finding == 0 ? 0 : x.findings(finding);
        C.due("29 leaks(" + r + ")", x.leaks(r), want);
        C.due("30 listen(" + r + ")", x.listen(r), want);
        C.due("31 strokes(" + r + ")", x.strokes(r), want);
        C.due("32 kinds(0, " + r + ")", x.kinds(0, r), want);
        C.due("39 refused: nothing told", x.asked(), told);
        C.due("40 refused: no numbers told", Towns.share(x).equals(share));
        if (finding != 0) {
            C.due("43 finding()", x.finding(), finding);
            C.due("44 each counts", x.findings(finding), before + 4);
        }
    }

    private static void refusedWithoutPipes() {
        BlowerBreath x = new BlowerBreath();
        C.due("29 STATE ahead of NOTHING", x.leaks(0), BlowerBreath.STATE);
        C.due("30 STATE ahead of NOTHING", x.listen(0), BlowerBreath.STATE);
        C.due("31 STATE ahead of NOTHING", x.strokes(0), BlowerBreath.STATE);
        C.due("32 no such pipe", x.kinds(0, 0), BlowerBreath.BAD);
        C.due("29 BAD ahead of STATE", x.leaks(6), BlowerBreath.BAD);
        C.due("30 BAD ahead of STATE", x.listen(6), BlowerBreath.BAD);
        C.due("31 BAD ahead of STATE", x.strokes(-1), BlowerBreath.BAD);
        C.due("43 no FINDING", x.finding(), 0);
    }
}
