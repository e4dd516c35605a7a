/** Promises 33 to 38: whose needs, by turns, chances, lots. */
public final class SetsChancesTest {
    private static final Check C = new Check("SetsChances");

    public static void main(String[] args) {
        sets();
        setsRefused();
        duel();
        duelWithCuts();
        odds();
        mid();
        chancesRefused();
        lots();
        lotsOneByOne();
        lotsRefused();
        C.end();
    }

    private static void setsAre(BlowerBreath x, int v, int sets, int first, int inEach, int inNone) {
        C.due("33 sets(" + v + ")", x.sets(v), 1);
        C.due("33 the first", x.asked(), first);
        C.due("33 how many", x.upper(), sets);
        C.due("33 lower()", x.lower(), 1);
        if (sets == 0) {
            C.refused("34 sure(" + v + ")", x, x.sure(v), Towns.NOUGHT);
            C.due("39 refused: nothing told", x.asked(), BlowerBreath.NONE);
        } else {
            C.due("34 sure(" + v + ")", x.sure(v), inEach);
            C.due("34 in none", x.asked(), inNone);
        }
    }

    private static void sets() {
        BlowerBreath x = Towns.of("a105p03s03b06");
        x.odds(0, 5);
        setsAre(x, 0, 1, 0, 0, 7);
        setsAre(x, 1, 0, -9, 0, 0);
        setsAre(x, 3, 2, 1, 0, 4);
        setsAre(x, 6, 2, 3, 0, 0);
        setsAre(x, 9, 2, 5, 4, 0);
        setsAre(x, 12, 1, 7, 7, 0);
        setsAre(x, 99, 0, -9, 0, 0);
        x.cut(0);
        setsAre(x, 9, 2, 5, 4, 0);
        BlowerBreath old = Towns.of("a609o04t03l01");
        setsAre(old, 4, 3, 1, 0, 0);
        setsAre(old, 8, 3, 3, 0, 0);
        setsAre(old, 12, 1, 7, 7, 0);
        old.hour();
        old.hour();
        setsAre(old, 0, 2, 0, 0, 6);
        setsAre(old, 4, 4, 2, 0, 0);
        setsAre(old, 8, 2, 6, 6, 0);
        setsAre(Towns.of("a105t09l09p09p09p09p09"), 66, 1, 63, 63, 0);
    }

    private static void setsRefused() {
        BlowerBreath x = Towns.of("a105p03");
        C.due("33 sets(-1)", x.sets(-1), BlowerBreath.BAD);
        C.due("33 sets(100)", x.sets(100), BlowerBreath.BAD);
        C.due("34 sure(-1)", x.sure(-1), BlowerBreath.BAD);
        C.due("34 sure(100)", x.sure(100), BlowerBreath.BAD);
        BlowerBreath none = new BlowerBreath();
        C.due("33 without pipes", none.sets(0), BlowerBreath.STATE);
        C.due("34 without pipes", none.sure(0), BlowerBreath.STATE);
        C.due("33 BAD without pipes", none.sets(100), BlowerBreath.BAD);
        C.due("34 BAD without pipes", none.sure(-1), BlowerBreath.BAD);
        C.due("34 STATE is no FINDING", none.finding(), 0);
    }

    private static void duelIs(BlowerBreath x, int n, int gain) {
        long before = x.digest();
        C.due("35 duel(" + n + ")", x.duel(n), 1);
        C.due("35 told by duel(" + n + ")", x.asked(), gain);
        C.due("35 aside", x.digest(), before);
    }

    private static void duel() {
        BlowerBreath one = Towns.of("a020p02");
        duelIs(one, 0, 1);
        duelIs(one, 1, 0);
        duelIs(one, 2, 0);
        BlowerBreath two = Towns.of("a020p02p02");
        duelIs(two, 0, 1);
        duelIs(two, 1, 0);
        BlowerBreath even = Towns.of("a609p01p01p01p01p01");
        duelIs(even, 0, 1);
        // one cuts an uneven one, the other an even one
        duelIs(even, 1, 1);
        duelIs(even, 2, 1);
        BlowerBreath root = Towns.of("a609p01p11p01p31p31");
        // 3 and 4 hang on 2, 1 hangs on 0: 0, 2, 4 against 1, 3
        duelIs(root, 0, 1);
        // cut 3 ahead, and then 2, leaves 0 against 1; cut 1 ahead, and then any one, leaves 1 more
        duelIs(root, 1, 1);
        BlowerBreath uneven = Towns.of("a010p09p01");
        duelIs(uneven, 0, -1);
        duelIs(uneven, 1, -1);
        C.due("35 duel(-1)", one.duel(-1), BlowerBreath.BAD);
        C.due("35 duel(3)", one.duel(3), BlowerBreath.BAD);
        C.due("35 without pipes", new BlowerBreath().duel(0), BlowerBreath.STATE);
        C.due("35 BAD without pipes", new BlowerBreath().duel(3), BlowerBreath.BAD);
    }

    private static void duelWithCuts() {
        BlowerBreath x = Towns.of("a609p01p01");
        x.cut(1);
        duelIs(x, 0, 1);
        // whatever comes first, the other one joins 1 again, or cuts 0
        duelIs(x, 1, 0);
        x.cut(0);
        duelIs(x, 0, 0);
        // joined 0 ahead, cut 0 or joined 1 again
        duelIs(x, 1, 0);
        x.cut(1);
        duelIs(x, 0, -1);
        duelIs(x, 1, -1);
    }

    private static void share(String call, BlowerBreath x, int answer, long upper, long lower) {
        C.due(call, answer, 1);
        C.due(call + ", upper()", x.upper(), upper);
        C.due(call + ", lower()", x.lower(), lower);
    }

    private static void odds() {
        BlowerBreath x = Towns.of("a010p01");
        x.pipe(0, 2);
        share("36 odds(0, 3)", x, x.odds(0, 3), 3, 4);
        share("36 odds(0, 0)", x, x.odds(0, 0), 1, 1);
        share("36 odds(0, 12)", x, x.odds(0, 12), 0, 1);
        share("36 odds(0, 5)", x, x.odds(0, 5), 7, 12);
        C.due("39 odds tell nothing by asked()", x.asked(), 1);
        x.leak(0);
        share("36 one that leaks", x, x.odds(0, 3), 0, 1);
        BlowerBreath two = Towns.of("a020p01p01");
        share("36 odds(1, 6)", two, two.odds(1, 6), 1, 4);
        share("36 odds(1, 5)", two, two.odds(1, 5), 49, 144);
        share("36 odds(0, 5)", two, two.odds(0, 5), 1, 1);
        BlowerBreath three = Towns.of("a031p01p01p01");
        // 4 for 3: at most one leak
        share("36 odds(2, 3)", three, three.odds(2, 3), 27, 32);
        three.leak(0);
        share("36 one leaks already", three, three.odds(2, 3), 9, 16);
        BlowerBreath six = Towns.of("a060p01p01p01p01p01p01");
        share("36 six", six, six.odds(5, 1), 1771561, 2985984);
        C.due("36 aside", six.count(6), 0);
    }

    private static void mid() {
        BlowerBreath x = Towns.of("a030p01p01");
        x.pipe(0, 2);
        share("37 mid(6)", x, x.mid(6), 1, 4);
        share("37 mid(4)", x, x.mid(4), 4, 9);
        share("37 mid(0)", x, x.mid(0), 1, 1);
        share("37 mid(12)", x, x.mid(12), 0, 1);
        C.due("39 mid tells nothing by asked()", x.asked(), 1);
        x.leak(0);
        share("37 one leaks", x, x.mid(4), 0, 1);
        BlowerBreath y = Towns.of("a509p01p11");
        // 59 - 2, and 1 less for each by 5 of 12
        share("37 mid(5)", y, y.mid(5), 337, 6);
        y.leak(1);
        share("37 one leaks for sure", y, y.mid(5), 667, 12);
        y.cut(0);
        share("37 cut off", y, y.mid(5), 59, 1);
        C.due("37 aside", y.count(3), 0);
    }

    private static void chancesRefused() {
        BlowerBreath x = Towns.of("a030p01p01");
        x.mid(4);
        C.due("36 odds(2, 1)", x.odds(2, 1), BlowerBreath.BAD);
        C.due("36 odds(-1, 1)", x.odds(-1, 1), BlowerBreath.BAD);
        C.due("36 odds(0, 13)", x.odds(0, 13), BlowerBreath.BAD);
        C.due("36 odds(0, -1)", x.odds(0, -1), BlowerBreath.BAD);
        C.due("37 mid(13)", x.mid(13), BlowerBreath.BAD);
        C.due("37 mid(-1)", x.mid(-1), BlowerBreath.BAD);
        C.due("40 refused: upper() stays", x.upper(), 4);
        C.due("41 refused: lower() stays", x.lower(), 9);
        C.due("36 without pipes", new BlowerBreath().odds(0, 0), BlowerBreath.BAD);
        C.due("37 without pipes", new BlowerBreath().mid(0), BlowerBreath.STATE);
        C.due("37 BAD without pipes", new BlowerBreath().mid(13), BlowerBreath.BAD);
    }

    /** From seed 1 there come 48271, 182605794, 1291394886, 1914720637, 2078669041: hour, cut, hour, air, stroke. */
    private static void lots() {
        BlowerBreath x = Towns.of("a054p03s02");
        C.due("38 lots(5, 1)", x.lots(5, 1), 11);
        int[] due = {2, 11, 3, 2, 5, 1, 0, 2, 3};
        for (int what = 0; what < due.length; what++) {
            C.due("38 count(" + what + ")", x.count(what), due[what]);
        }
        C.due("38 the stroke undone", x.undo(4), 1);
        C.due("38 stroke", x.count(2), 4);
        C.due("38 the air undone", x.undo(3), 1);
        C.due("38 air", x.count(1), 4);
        C.due("38 nothing told by asked()", x.asked(), 0);
    }

    private static void lotsOneByOne() {
        BlowerBreath air = Towns.of("a559p01");
        C.due("38 60 at most", air.lots(1, 1291394886), 60);
        C.due("38 air at 60 is a deed", air.lots(1, 1291394886), 60);
        C.due("38 two deeds", air.count(4), 2);
        air.undo(1);
        C.due("38 undone it is 60 still", air.count(1), 60);
        air.undo(0);
        C.due("38 undone it is 55", air.count(1), 55);
        BlowerBreath stroke = Towns.of("a053p01");
        C.due("38 a stroke that is so", stroke.lots(1, 1914720637), 5);
        C.due("38 is a deed", stroke.count(4), 1);
        // 192302371 comes ahead of 1203428207: by 8 and modulo 8 it is 5, modulo 6 it is 5
        BlowerBreath leak = Towns.of("a105 p03s12b14t02o22l41");
        leak.lots(1, 192302371);
        C.due("38 it leaks", leak.count(6), 32);
        leak.lots(1, 192302371);
        C.due("38 it is mended", leak.count(6), 0);
        // 2078669041 comes ahead of 407355683: cut, modulo 6 it is 5
        leak.lots(1, 2078669041);
        C.due("38 it is cut", leak.count(5), 32);
        leak.lots(1, 2078669041);
        C.due("38 it is joined again", leak.count(5), 0);
    }

    private static void lotsRefused() {
        BlowerBreath x = Towns.of("a054p03s02");
        C.due("38 lots(0, 1)", x.lots(0, 1), BlowerBreath.BAD);
        C.due("38 lots(21, 1)", x.lots(21, 1), BlowerBreath.BAD);
        C.due("38 lots(1, 0)", x.lots(1, 0), BlowerBreath.BAD);
        C.due("38 lots(1, -1)", x.lots(1, -1), BlowerBreath.BAD);
        C.due("38 lots(1, 2147483647)", x.lots(1, 2147483647), BlowerBreath.BAD);
        // the greatest seed is as -1: -48271 modulo 2147483647, which is 2147435376: by 8 and modulo 8 it is 6
        C.due("38 lots(1, 2147483646)", x.lots(1, 2147483646), 5);
        C.due("38 stroke", x.count(2), 2147435376 / 64 % 10);
        x.undo(0);
        C.due("38 lots(20, 3) can be", x.lots(20, 3) >= 0);
        x.hour();
        long before = x.digest();
        C.due("38 41 deeds", x.lots(20, 3), BlowerBreath.FULL);
        C.due("38 FULL changes nothing", x.digest(), before);
        C.due("38 40 deeds", x.lots(19, 3) >= 0);
        C.due("38 deeds", x.count(4), 40);
        C.due("38 without pipes", new BlowerBreath().lots(1, 1), BlowerBreath.STATE);
        C.due("38 BAD without pipes", new BlowerBreath().lots(1, 0), BlowerBreath.BAD);
    }
}
