/** Promises 11 to 13: towns by texts, what a pipe is, what its kind tells. */
public final class TownsTest {
    private static final Check C = new Check("Towns");
    private static final String ALL_KINDS = "a105 p03s12b14t02o22l41";

    public static void main(String[] args) {
        town();
        townAnew();
        townRefused();
        pipe();
        pipeThatChanges();
        markKinds();
        markNumbers();
        C.end();
    }

    private static void town() {
        BlowerBreath x = new BlowerBreath();
        Towns.write(x, 3, "  a609 l09 ");
        C.due("11 town(3)", x.town(3), 1);
        C.due("11 air", x.count(1), 60);
        C.due("11 stroke", x.count(2), 9);
        Towns.write(x, 0, ALL_KINDS);
        C.due("11 town(0)", x.town(0), 6);
        C.due("11 air", x.count(1), 10);
        C.due("11 stroke", x.count(2), 5);
        Towns.write(x, 0, "x");
        C.due("11 the town does not hang on its text", x.count(0), 6);
    }

    private static void townAnew() {
        BlowerBreath x = Towns.of("a309p01s01");
        x.hour();
        x.cut(0);
        x.leak(1);
        x.stroke(2);
        x.keep(0);
        x.keep(2);
        x.at(0, 0);
        x.sets(0);
        C.due("11 kept", x.count(13), 2);
        C.due("11 town(0) anew", x.town(0), 2);
        int[] due = {2, 30, 9, 0, 0, 0, 0, 0, 0, 1, 0, 0, 1, 0};
        for (int what = 0; what < due.length; what++) {
            C.due("11 anew, count(" + what + ")", x.count(what), due[what]);
        }
        C.refused("11 kept towns go", x, x.on(2), Towns.NOTHING);
        C.due("11 what was told stays", x.upper(), 1);
        C.due("11 no deeds to be undone", x.undo(0), 0);
    }

    private static void townRefused() {
        BlowerBreath x = Towns.of(ALL_KINDS);
        x.hour();
        x.keep(1);
        long before = x.digest();
        C.due("11 town(4)", x.town(4), BlowerBreath.BAD);
        C.due("11 town(-1)", x.town(-1), BlowerBreath.BAD);
        C.refused("11 town(1)", x, x.town(1), Towns.NOTHING);
        C.due("11 refused: nothing changes", x.digest(), before);
        Towns.write(x, 2, "a615p01");
        before = x.digest();
        C.due("11 a FAULT", x.town(2), BlowerBreath.STATE);
        C.due("11 a FAULT changes nothing", x.digest(), before);
        x.text(2, 0);
        C.due("11 an empty text", x.town(2), BlowerBreath.STATE);
        C.due("11 STATE is no FINDING", x.findings(Towns.NOTHING), 1);
    }

    private static void pipe() {
        BlowerBreath x = Towns.of(ALL_KINDS);
        int[][] due = {
            {0, -9, 3, 3}, {1, 0, 2, 2}, {2, 0, 4, 4}, {3, -9, 2, 3}, {4, 1, 2, 2}, {5, 3, 1, 4}};
        for (int i = 0; i < due.length; i++) {
            for (int what = 0; what < 8; what++) {
                int want = what < 4 ? due[i][what] : 0;
                C.due("12 pipe(" + i + ", " + what + ")", x.pipe(i, what), 1);
                C.due("12 told by pipe(" + i + ", " + what + ")", x.asked(), want);
            }
        }
        C.due("12 pipe(6, 0)", x.pipe(6, 0), BlowerBreath.BAD);
        C.due("12 pipe(-1, 0)", x.pipe(-1, 0), BlowerBreath.BAD);
        C.due("12 pipe(0, 8)", x.pipe(0, 8), BlowerBreath.BAD);
        C.due("12 pipe(0, -1)", x.pipe(0, -1), BlowerBreath.BAD);
        C.due("12 one beyond its town", Towns.of("a105p03").pipe(1, 0), BlowerBreath.BAD);
    }

    private static void pipeThatChanges() {
        BlowerBreath x = Towns.of("a309o02p12p23s01");
        x.hour();
        x.hour();
        C.due("12 an old one saved", Towns.fact(x, 0, 4), 2);
        C.due("12 it said", Towns.fact(x, 0, 5), 2);
        C.due("12 it wants none in hour 2", Towns.fact(x, 0, 3), 0);
        x.hour();
        C.due("12 it wants in hour 3", Towns.fact(x, 0, 3), 2);
        C.due("12 it said no more", Towns.fact(x, 0, 5), 2);
        x.cut(1);
        x.leak(2);
        int[] cutOff = {0, 1, 1, 0};
        int[] leaks = {0, 0, 1, 0};
        for (int i = 0; i < 4; i++) {
            C.due("12 cut off, pipe " + i, Towns.fact(x, i, 6), cutOff[i]);
            C.due("12 leaks, pipe " + i, Towns.fact(x, i, 7), leaks[i]);
        }
        x.cut(0);
        x.cut(1);
        C.due("12 cut off by the root of its branch", Towns.fact(x, 2, 6), 1);
        C.due("12 another branch is not", Towns.fact(x, 3, 6), 0);
    }

    private static void markKinds() {
        BlowerBreath x = Towns.of(ALL_KINDS);
        // rows: kinds 0 .. 5 as pipes 0 .. 5; columns: mark's kinds 1 .. 5
        boolean[][] is = {
            {false, false, false, false, false}, {true, false, false, false, false},
            {false, true, false, false, false}, {false, false, true, false, false},
            {true, false, false, true, false}, {false, false, true, false, true}};
        for (int i = 0; i < 6; i++) {
            for (int kind = 1; kind <= 5; kind++) {
                int times = x.findings(Towns.UNLIKE);
                int got = x.mark(i, kind);
                C.due("13 mark(" + i + ", " + kind + ")", (got == BlowerBreath.FINDING) != is[i][kind - 1]);
                C.due("13 UNLIKE once more", x.findings(Towns.UNLIKE) - times, is[i][kind - 1] ? 0 : 1);
            }
        }
        int[] bad = {0, -1, 6, Integer.MAX_VALUE};
        for (int kind : bad) {
            C.due("13 mark(0, " + kind + ")", x.mark(0, kind), BlowerBreath.BAD);
        }
        C.due("13 mark(6, 1)", x.mark(6, 1), BlowerBreath.BAD);
        C.due("13 mark(-1, 1)", x.mark(-1, 1), BlowerBreath.BAD);
    }

    private static void markNumbers() {
        BlowerBreath x = Towns.of("a405s01b09o03t04l01p04");
        int answer = x.asked();
        C.due("13 a saver's room", x.mark(0, 1), 20);
        C.due("13 a babe that has enough", x.mark(1, 2), 0);
        C.due("13 an old one's room", x.mark(2, 1), 20);
        C.due("13 an old one's rest, hour 0", x.mark(2, 4), 2);
        C.due("13 a sigh's tax", x.mark(3, 3), 1);
        C.due("13 asked() stays", x.asked(), answer);
        x.hour();
        C.due("13 a saver's room later", x.mark(0, 1), 19);
        C.due("13 an old one's room later", x.mark(2, 1), 19);
        C.due("13 an old one's rest, hour 1", x.mark(2, 4), 1);
        x.hour();
        C.due("13 an old one's rest, hour 2", x.mark(2, 4), 0);
        BlowerBreath y = Towns.of("a059b09l03p08p09o08");
        C.due("13 a babe's lack of 5 to 9", y.mark(0, 2), 4);
        C.due("13 a laugh's beyond its need", y.mark(1, 3), 5);
        C.due("13 of 9, 8, 8, 9, 8: as much as 8 or less", y.mark(1, 5), 3);
        y.cut(4);
        y.cut(2);
        C.due("13 cut pipes want as well", y.mark(1, 5), 3);
        BlowerBreath z = Towns.of("a000l01o09");
        C.due("13 an old one wants 9", z.mark(0, 5), 1);
        z.hour();
        z.hour();
        C.due("13 an old one wants none", z.mark(0, 5), 2);
    }
}
