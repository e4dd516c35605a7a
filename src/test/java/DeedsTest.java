/** Promises 14 to 21: hours and other deeds, undone, kept, gone on from. */
public final class DeedsTest {
    private static final Check C = new Check("Deeds");
    private static final String PIPE_AND_SAVER = "a054p03s02";

    public static void main(String[] args) {
        hours();
        hoursOfKinds();
        savedAtMost();
        leaksInHours();
        cutOffInHours();
        hourRefused();
        pump();
        cut();
        leak();
        stroke();
        fullLast();
        undo();
        keepAndOn();
        keptStaysKept();
        C.end();
    }

    private static void hours() {
        BlowerBreath x = Towns.of(PIPE_AND_SAVER);
        int[] spoke = {3, 3, 3, 3, 3, 1, 3};
        int[] air = {3, 1, 0, 0, 0, 1, 0};
        int[] saved = {1, 2, 2, 1, 0, 0, 0};
        for (int k = 0; k < spoke.length; k++) {
            C.due("14 hour " + k, x.hour(), spoke[k]);
            C.due("14 air behind hour " + k, x.count(1), air[k]);
            C.due("14 saved behind hour " + k, Towns.fact(x, 1, 4), saved[k]);
            C.due("14 the next hour's number", x.count(3), k + 1);
            C.due("14 deeds", x.count(4), k + 1);
        }
        C.due("14 pipe 0 said", Towns.fact(x, 0, 5), 7);
        C.due("14 pipe 1 said", Towns.fact(x, 1, 5), 6);
        C.due("42 all said", x.count(8), 13);
    }

    private static void oneHour(String text, int spoke, int air) {
        BlowerBreath x = Towns.of(text);
        C.due("14 hour() of " + text, x.hour(), spoke);
        C.due("14 air behind it, " + text, x.count(1), air);
    }

    private static void hoursOfKinds() {
        oneHour("a605p01", 1, 59);
        oneHour("a030p03", 1, 0);
        oneHour("a020p03", 0, 2);
        oneHour("a040b09p01", 0, 0);
        oneHour("a040p09p01", 2, 3);
        oneHour("a040s09p01", 2, 3);
        oneHour("a040o09p01", 2, 3);
        oneHour("a040t09p01", 2, 3);
        oneHour("a040l09p01", 2, 3);
        oneHour("a040t03", 1, 0);
        oneHour("a030t03", 0, 3);
        oneHour("a080l03", 1, 0);
        oneHour("a070l03", 0, 7);
        oneHour("a030s02", 1, 0);
        oneHour("a020s02", 1, 0);
        oneHour("a040b02", 1, 2);
        oneHour("a050t02", 1, 2);
        oneHour("a201l01", 1, 17);
        BlowerBreath old = Towns.of("a091o02");
        int[] spoke = {1, 1, 0, 1, 1, 0};
        int[] air = {7, 5, 6, 4, 2, 3};
        for (int k = 0; k < spoke.length; k++) {
            C.due("14 an old one, hour " + k, old.hour(), spoke[k]);
            C.due("14 air behind an old one's hour " + k, old.count(1), air[k]);
        }
        C.due("14 an old one saved", old.count(7), 4);
    }

    private static void savedAtMost() {
        BlowerBreath x = Towns.of("a609s01");
        for (int k = 0; k < 20; k++) {
            x.hour();
        }
        C.due("14 saved in 20 hours", x.count(7), 20);
        C.due("13 no more room", x.mark(0, 1), 0);
        x.hour();
        C.due("14 20 at most", x.count(7), 20);
        C.due("14 what is more is taken and lost", x.count(1), 58);
        BlowerBreath y = Towns.of("a509s09p01");
        for (int k = 0; k < 12; k++) {
            y.hour();
        }
        y.stroke(0);
        for (int k = 0; k < 4; k++) {
            y.hour();
        }
        C.due("14 the rest of what it saved, with all the air", y.count(1) + 100 * y.count(7), airAndSaved());
    }

    /** 50 + 9 (60 at most), 9, 1 and 1 taken an hour: told hour by hour, on its own. */
    private static int airAndSaved() {
        int air = 50;
        int saved = 0;
        for (int k = 0; k < 16; k++) {
            air = Math.min(60, air + (k < 12 ? 9 : 0));
            if (air >= 9) {
                air -= 9;
                int keeps = Math.min(air, 1);
                air -= keeps;
                saved = Math.min(20, saved + keeps);
            } else if (air + saved >= 9) {
                saved -= 9 - air;
                air = 0;
            }
            air -= Math.min(air, 1);
        }
        return air + 100 * saved;
    }

    private static void leaksInHours() {
        BlowerBreath x = Towns.of("a010p01");
        x.leak(0);
        C.due("14 a leak ahead of what it wants", x.hour(), 0);
        C.due("14 the leak took it", x.count(1), 0);
        C.due("14 hour() without air", x.hour(), 0);
        C.due("14 no less than 0", x.count(1), 0);
        BlowerBreath old = Towns.of("a309o01");
        old.hour();
        old.hour();
        old.leak(0);
        old.pump(-5);
        int before = old.count(1);
        old.hour();
        C.due("14 one that wants none leaks", old.count(1), before + 9 - 1);
        BlowerBreath both = Towns.of("a030p01p01");
        both.leak(0);
        C.due("14 the first one's leak lets down the next", both.hour(), 3);
        C.due("14 it is all gone", both.count(1), 0);
        both.pump(2);
        C.due("14 now it is too little", both.hour(), 1);
    }

    private static void cutOffInHours() {
        BlowerBreath x = Towns.of("a309p01p12p23p01");
        x.leak(1);
        x.cut(0);
        C.due("14 cut at the root", x.hour(), 8);
        C.due("14 cut off: nothing taken, no leak", x.count(1), 38);
        x.cut(1);
        x.cut(0);
        C.due("14 cut in the middle", x.hour(), 9);
        C.due("14 air then", x.count(1), 45);
        x.cut(1);
        C.due("14 all joined", x.hour(), 15);
        C.due("14 air then", x.count(1), 54 - 1 - 1 - 2 - 3 - 1);
    }

    private static void hourRefused() {
        BlowerBreath x = new BlowerBreath();
        C.due("14 hour() without pipes", x.hour(), BlowerBreath.STATE);
        BlowerBreath y = Towns.of("a000p01");
        for (int k = 0; k < 40; k++) {
            C.due("14 hour " + k, y.hour(), 0);
        }
        long before = y.digest();
        C.due("14 a 41st deed", y.hour(), BlowerBreath.FULL);
        C.due("14 FULL changes nothing", y.digest(), before);
    }

    private static void pump() {
        BlowerBreath x = Towns.of("a500p01");
        C.due("15 pump(1)", x.pump(1), 51);
        C.due("15 pump(9)", x.pump(9), 60);
        C.due("15 pump(1) above 60", x.pump(1), BlowerBreath.STATE);
        C.due("15 pump(-9)", x.pump(-9), 51);
        C.due("15 pump(-1)", x.pump(-1), 50);
        C.due("15 deeds", x.count(4), 4);
        int[] bad = {0, 10, -10, Integer.MAX_VALUE, Integer.MIN_VALUE};
        for (int n : bad) {
            C.due("15 pump(" + n + ")", x.pump(n), BlowerBreath.BAD);
            C.due("15 BAD without pipes", new BlowerBreath().pump(n), BlowerBreath.BAD);
        }
        BlowerBreath y = Towns.of("a040p01");
        C.due("15 below 0", y.pump(-5), BlowerBreath.STATE);
        C.due("15 to 0", y.pump(-4), 0);
        C.due("15 without pipes", new BlowerBreath().pump(1), BlowerBreath.STATE);
    }

    private static void cut() {
        BlowerBreath x = Towns.of("a500p01p11");
        C.due("16 cut(1)", x.cut(1), 1);
        C.due("16 cut(0)", x.cut(0), 1);
        C.due("16 both", x.count(5), 3);
        C.due("16 joined again", x.cut(1), 0);
        C.due("16 the other one", x.count(5), 1);
        C.due("16 deeds", x.count(4), 3);
        C.due("16 cut(2)", x.cut(2), BlowerBreath.BAD);
        C.due("16 cut(-1)", x.cut(-1), BlowerBreath.BAD);
        C.due("16 without pipes", new BlowerBreath().cut(0), BlowerBreath.BAD);
    }

    private static void leak() {
        BlowerBreath x = Towns.of("a500p01p11");
        C.due("17 leak(1)", x.leak(1), 1);
        C.due("17 leak(0)", x.leak(0), 1);
        C.due("17 both", x.count(6), 3);
        C.due("17 mended", x.leak(1), 0);
        C.due("17 the other one", x.count(6), 1);
        C.due("17 deeds", x.count(4), 3);
        C.due("17 nothing is cut by it", x.count(5), 0);
        C.due("17 leak(2)", x.leak(2), BlowerBreath.BAD);
        C.due("17 leak(-1)", x.leak(-1), BlowerBreath.BAD);
        C.due("17 without pipes", new BlowerBreath().leak(0), BlowerBreath.BAD);
    }

    private static void stroke() {
        BlowerBreath x = Towns.of("a505p01");
        C.due("18 stroke(9)", x.stroke(9), 5);
        C.due("18 stroke(0)", x.stroke(0), 9);
        C.due("18 it is so", x.stroke(0), BlowerBreath.STATE);
        C.due("18 count(2)", x.count(2), 0);
        C.due("18 deeds", x.count(4), 2);
        C.due("18 stroke(10)", x.stroke(10), BlowerBreath.BAD);
        C.due("18 stroke(-1)", x.stroke(-1), BlowerBreath.BAD);
        C.due("18 without pipes", new BlowerBreath().stroke(3), BlowerBreath.STATE);
        C.due("18 BAD without pipes", new BlowerBreath().stroke(10), BlowerBreath.BAD);
    }

    private static void fullLast() {
        BlowerBreath x = Towns.of("a590p01");
        for (int k = 0; k < 40; k++) {
            x.cut(0);
        }
        long before = x.digest();
        C.due("14 hour()", x.hour(), BlowerBreath.FULL);
        C.due("15 pump(1)", x.pump(1), BlowerBreath.FULL);
        C.due("15 STATE ahead of FULL", x.pump(2), BlowerBreath.STATE);
        C.due("15 BAD ahead of FULL", x.pump(0), BlowerBreath.BAD);
        C.due("16 cut(0)", x.cut(0), BlowerBreath.FULL);
        C.due("16 BAD ahead of FULL", x.cut(1), BlowerBreath.BAD);
        C.due("17 leak(0)", x.leak(0), BlowerBreath.FULL);
        C.due("17 BAD ahead of FULL", x.leak(1), BlowerBreath.BAD);
        C.due("18 stroke(1)", x.stroke(1), BlowerBreath.FULL);
        C.due("18 STATE ahead of FULL", x.stroke(0), BlowerBreath.STATE);
        C.due("18 BAD ahead of FULL", x.stroke(10), BlowerBreath.BAD);
        C.due("38 lots(1, 1)", x.lots(1, 1), BlowerBreath.FULL);
        C.due("38 BAD ahead of FULL", x.lots(0, 1), BlowerBreath.BAD);
        C.due("14 FULL changes nothing", x.digest(), before);
        C.due("19 undo(41) of 40", x.undo(41), BlowerBreath.BAD);
        C.due("19 undo(40) of 40", x.undo(40), 0);
        C.due("19 the last one undone", x.undo(39), 1);
        C.due("14 room for one", x.hour(), 0);
        C.due("14 none for the next", x.hour(), BlowerBreath.FULL);
    }

    private static void undo() {
        BlowerBreath x = Towns.of(PIPE_AND_SAVER);
        long[] digests = new long[9];
        digests[0] = x.digest();
        x.hour();
        digests[1] = x.digest();
        x.leak(1);
        digests[2] = x.digest();
        x.pump(9);
        digests[3] = x.digest();
        x.hour();
        digests[4] = x.digest();
        x.cut(0);
        digests[5] = x.digest();
        x.stroke(7);
        digests[6] = x.digest();
        x.pump(-2);
        digests[7] = x.digest();
        x.hour();
        digests[8] = x.digest();
        C.due("19 undo(9): the next deed has no such number", x.undo(9), BlowerBreath.BAD);
        C.due("19 undo(39)", x.undo(39), BlowerBreath.BAD);
        C.due("19 undo(8): from the next deed on there are none", x.undo(8), 0);
        C.due("19 undo(-1)", x.undo(-1), BlowerBreath.BAD);
        C.due("19 BAD, or none undone, changes nothing", x.digest(), digests[8]);
        C.due("19 undo(7)", x.undo(7), 1);
        C.due("19 as it was", x.digest(), digests[7]);
        C.due("19 undo(4)", x.undo(4), 3);
        C.due("19 as it was", x.digest(), digests[4]);
        for (int n = 3; n >= 1; n--) {
            C.due("19 undo(" + n + ")", x.undo(n), 1);
            C.due("19 as it was", x.digest(), digests[n]);
        }
        C.due("19 undo(0)", x.undo(0), 1);
        C.due("19 as it was", x.digest(), digests[0]);
        C.due("19 none is left", x.undo(0), 0);
        C.due("19 as it was", x.digest(), digests[0]);
        C.due("19 none is left, undo(1)", x.undo(1), BlowerBreath.BAD);
        undoWithoutPipes();
        BlowerBreath y = Towns.of("a609o02l01");
        long first = y.digest();
        y.lots(20, 7);
        long then = y.digest();
        y.lots(20, 8);
        C.due("19 deeds by lots undone", y.undo(20), 20);
        C.due("19 as it was", y.digest(), then);
        C.due("19 all of them", y.undo(0), 20);
        C.due("19 as it was at first", y.digest(), first);
    }

    private static void undoWithoutPipes() {
        BlowerBreath x = new BlowerBreath();
        long before = x.digest();
        C.due("19 without pipes", x.undo(0), 0);
        C.due("19 without pipes, undo(1)", x.undo(1), BlowerBreath.BAD);
        C.due("19 without pipes, undo(-1)", x.undo(-1), BlowerBreath.BAD);
        C.due("19 without pipes nothing changes", x.digest(), before);
    }

    private static void keepAndOn() {
        BlowerBreath x = Towns.of(PIPE_AND_SAVER);
        C.due("20 keep(0)", x.keep(0), 0);
        x.hour();
        x.leak(0);
        x.pump(3);
        C.due("20 keep(2)", x.keep(2), 3);
        C.due("20 count(13)", x.count(13), 2);
        long kept = x.digest();
        x.hour();
        x.stroke(0);
        x.cut(1);
        C.due("21 on(2)", x.on(2), 3);
        C.due("21 as it was kept", x.digest(), kept);
        C.due("21 its deeds can be undone", x.undo(1), 2);
        C.due("21 air then", x.count(1), 3);
        C.due("21 on(0)", x.on(0), 0);
        C.due("21 air at first", x.count(1), 5);
        C.due("21 on(2) again", x.on(2), 3);
        C.due("21 as it was kept", x.digest(), kept);
        C.refused("21 on(1)", x, x.on(1), Towns.NOTHING);
        C.due("21 on(3)", x.on(3), BlowerBreath.BAD);
        C.due("21 on(-1)", x.on(-1), BlowerBreath.BAD);
        C.due("20 keep(3)", x.keep(3), BlowerBreath.BAD);
        C.due("20 keep(-1)", x.keep(-1), BlowerBreath.BAD);
        C.due("20 without pipes", new BlowerBreath().keep(0), BlowerBreath.STATE);
        C.due("20 BAD without pipes", new BlowerBreath().keep(3), BlowerBreath.BAD);
    }

    private static void keptStaysKept() {
        BlowerBreath x = Towns.of(PIPE_AND_SAVER);
        x.hour();
        x.keep(1);
        x.undo(0);
        x.pump(1);
        x.pump(2);
        C.due("20 deeds of later do not reach what is kept", x.on(1), 1);
        C.due("20 air then", x.count(1), 3);
        x.pump(5);
        C.due("20 kept over", x.keep(1), 2);
        C.due("20 still one", x.count(13), 1);
        x.undo(0);
        C.due("21 the later one", x.on(1), 2);
        C.due("21 air then", x.count(1), 8);
        x.undo(0);
        x.pump(-1);
        x.leak(1);
        x.keep(2);
        x.undo(0);
        x.pump(7);
        x.leak(0);
        C.due("21 by how much, and which pipe", x.on(2), 2);
        C.due("21 air then", x.count(1), 4);
        C.due("21 what leaks then", x.count(6), 2);
        x.undo(1);
        C.due("21 air when undone", x.count(1), 4);
        C.due("21 on(1)", x.on(1), 2);
        C.due("21 air then", x.count(1), 8);
        C.due("21 nothing leaks then", x.count(6), 0);
    }
}
