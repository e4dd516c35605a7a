/** Promises 22 to 28: what comes, and what it takes so that one speaks. */
public final class AheadTest {
    private static final Check C = new Check("Ahead");
    private static final String PIPE_AND_SAVER = "a054p03s02";
    private static final String ALL_KINDS = "a105 p03s12b14t02o22l41";

    public static void main(String[] args) {
        wants();
        air();
        says();
        first();
        hush();
        hushRefused();
        least();
        hard();
        hardRefused();
        C.end();
    }

    private static void wants() {
        BlowerBreath x = Towns.of(ALL_KINDS);
        int[] kindsOfNine = {9, 9, 9, 10, 9, 20};
        int[] kindsOfOne = {1, 1, 1, 2, 1, 4};
        for (int i = 0; i < 6; i++) {
            C.due("22 wants(" + i + ", 9, 0)", x.wants(i, 9, 0), kindsOfNine[i]);
            C.due("22 wants(" + i + ", 1, 99)", x.wants(i, 1, 99), kindsOfOne[i]);
            C.due("22 wants(" + i + ", 1, 2)", x.wants(i, 1, 2), i == 4 ? 0 : kindsOfOne[i]);
            C.due("22 wants(" + i + ", 9, 98)", x.wants(i, 9, 98), i == 4 ? 0 : kindsOfNine[i]);
            C.due("22 wants(" + i + ", 9, 97)", x.wants(i, 9, 97), kindsOfNine[i]);
            C.due("22 need 0", x.wants(i, 0, 0), BlowerBreath.BAD);
            C.due("22 need 10", x.wants(i, 10, 0), BlowerBreath.BAD);
            C.due("22 hour -1", x.wants(i, 1, -1), BlowerBreath.BAD);
            C.due("22 hour 100", x.wants(i, 1, 100), BlowerBreath.BAD);
        }
        C.due("22 wants(6, 1, 0)", x.wants(6, 1, 0), BlowerBreath.BAD);
        C.due("22 wants(-1, 1, 0)", x.wants(-1, 1, 0), BlowerBreath.BAD);
        C.due("22 without pipes", new BlowerBreath().wants(0, 1, 0), BlowerBreath.BAD);
    }

    private static void air() {
        BlowerBreath x = Towns.of(PIPE_AND_SAVER);
        int[] air = {5, 3, 1, 0, 0, 0, 1, 0};
        int[] spoke = {0, 3, 3, 3, 3, 3, 1, 3};
        long before = x.digest();
        for (int n = air.length - 1; n >= 0; n--) {
            C.due("23 air(" + n + ")", x.air(n), air[n]);
            C.due("23 who speaks in the last of " + n, x.asked(), spoke[n]);
        }
        C.due("23 aside", x.digest(), before);
        x.hour();
        x.hour();
        C.due("23 from hour 2 on", x.air(4), 1);
        C.due("23 who speaks then", x.asked(), 1);
        C.due("23 air(40) can be", x.air(40) >= 0);
        int told = x.asked();
        C.due("23 air(41)", x.air(41), BlowerBreath.BAD);
        C.due("23 air(-1)", x.air(-1), BlowerBreath.BAD);
        C.due("39 refused: nothing told", x.asked(), told);
        C.due("23 without pipes", new BlowerBreath().air(0), BlowerBreath.STATE);
        C.due("23 BAD without pipes", new BlowerBreath().air(41), BlowerBreath.BAD);
    }

    private static void says() {
        BlowerBreath x = Towns.of(PIPE_AND_SAVER);
        long before = x.digest();
        C.due("24 says(1, 0)", x.says(1, 0), 0);
        C.due("24 says(1, 5)", x.says(1, 5), 5);
        C.due("24 says(1, 6)", x.says(1, 6), 5);
        C.due("24 says(1, 7)", x.says(1, 7), 6);
        C.due("24 says(0, 40)", x.says(0, 40), 40);
        C.due("24 aside", x.digest(), before);
        for (int k = 0; k < 5; k++) {
            x.hour();
        }
        C.due("24 what was said ahead does not count", x.says(1, 2), 1);
        C.due("24 says(0, 41)", x.says(0, 41), BlowerBreath.BAD);
        C.due("24 says(0, -1)", x.says(0, -1), BlowerBreath.BAD);
        C.due("24 says(2, 1)", x.says(2, 1), BlowerBreath.BAD);
        C.due("24 says(-1, 1)", x.says(-1, 1), BlowerBreath.BAD);
        C.due("24 without pipes", new BlowerBreath().says(0, 0), BlowerBreath.BAD);
    }

    private static void first() {
        C.due("25 enough at once", Towns.of("a100p09").first(0), 1);
        C.due("25 stroke by stroke", Towns.of("a001p09").first(0), 9);
        C.due("25 a babe never", Towns.of("a001b09").first(0), BlowerBreath.NONE);
        C.due("25 nothing is blown", Towns.of("a080p09").first(0), BlowerBreath.NONE);
        BlowerBreath forty = Towns.of("a000o09l09");
        forty.hour();
        forty.hour();
        forty.stroke(7);
        long before = forty.digest();
        C.due("25 in 40 hours", forty.first(1), 40);
        C.due("25 aside", forty.digest(), before);
        BlowerBreath later = Towns.of("a000o02o03l09");
        later.hour();
        later.stroke(5);
        C.due("25 in 41 hours", later.first(2), BlowerBreath.NONE);
        later.hour();
        C.due("25 in 40 hours from then", later.first(2), 40);
        BlowerBreath old = Towns.of("a609o01");
        old.hour();
        old.hour();
        C.due("25 an old one rests first", old.first(0), 2);
        C.due("25 first(1)", old.first(1), BlowerBreath.BAD);
        C.due("25 first(-1)", old.first(-1), BlowerBreath.BAD);
        C.due("25 without pipes", new BlowerBreath().first(0), BlowerBreath.BAD);
    }

    private static void hushIs(BlowerBreath x, int i, int fewest, int set) {
        C.due("26 hush(" + i + ")", x.hush(i), fewest);
        C.due("26 the least set", x.asked(), set);
    }

    private static void hush() {
        BlowerBreath x = Towns.of("a050p03p03p03");
        long before = x.digest();
        hushIs(x, 0, 0, 0);
        hushIs(x, 1, 1, 1);
        hushIs(x, 2, 2, 3);
        C.due("26 aside", x.digest(), before);
        x.cut(0);
        hushIs(x, 2, 1, 2);
        hushIs(Towns.of("a040p02p02p02"), 2, 1, 1);
        hushIs(Towns.of("a060p02p03p05p04"), 3, 1, 2);
        hushIs(Towns.of("a060p03p02p01p04"), 3, 2, 3);
        hushIs(Towns.of(ALL_KINDS), 5, 1, 1);
        BlowerBreath leaking = Towns.of("a040p02p02p03");
        leaking.leak(1);
        hushIs(leaking, 2, 2, 3);
        leaking.leak(1);
        leaking.leak(2);
        hushIs(leaking, 2, 2, 3);
    }

    private static void hushRefused() {
        BlowerBreath x = Towns.of("a030p02p13p01");
        x.pipe(1, 2);
        C.due("26 by which it branches it can't be cut", x.hush(1), BlowerBreath.NONE);
        C.due("39 NONE tells nothing", x.asked(), 3);
        x.cut(2);
        C.due("26 one that is cut", x.hush(2), BlowerBreath.NONE);
        C.due("26 it wants too much", Towns.of("a099l09").hush(0), BlowerBreath.NONE);
        C.due("26 hush(3)", x.hush(3), BlowerBreath.BAD);
        C.due("26 hush(-1)", x.hush(-1), BlowerBreath.BAD);
        C.due("26 without pipes", new BlowerBreath().hush(0), BlowerBreath.BAD);
        BlowerBreath old = Towns.of("a609o01");
        old.hour();
        old.hour();
        C.due("26 an old one that rests", old.hush(0), BlowerBreath.NONE);
    }

    private static void least() {
        BlowerBreath x = Towns.of("a050p03p03p03");
        long before = x.digest();
        C.due("27 least(0)", x.least(0), 0);
        C.due("27 least(1)", x.least(1), 1);
        C.due("27 least(2)", x.least(2), 4);
        C.due("27 aside", x.digest(), before);
        C.due("27 a laugh from nothing", Towns.of("a000l09").least(0), 20);
        C.due("27 with what is blown", Towns.of("a009l09").least(0), 11);
        C.due("27 60 in all", Towns.of("a550p09p09p09p09p08l07").least(5), 5);
        C.due("27 61 would be due", Towns.of("a550p09p09p09p09p09l07").least(5), BlowerBreath.NONE);
        C.due("27 60 from nothing", Towns.of("a000p09p09p09p09p08l07").least(5), 60);
        C.due("27 at 60 already", Towns.of("a600l09l09l09l01").least(3), BlowerBreath.NONE);
        BlowerBreath saved = Towns.of("a030s02");
        saved.hour();
        C.due("27 with what it saved", saved.least(0), 1);
        // by 3 more the second one has not enough; by 4 or 5 it has, and takes it from the third
        BlowerBreath less = Towns.of("a040p05p03p02");
        C.due("27 the least of several", less.least(2), 3);
        less.cut(0);
        C.due("27 with one cut", less.least(2), 1);
        less.cut(2);
        C.due("27 cut off", less.least(2), BlowerBreath.NONE);
        C.due("27 least(3)", less.least(3), BlowerBreath.BAD);
        C.due("27 least(-1)", less.least(-1), BlowerBreath.BAD);
        C.due("27 without pipes", new BlowerBreath().least(0), BlowerBreath.BAD);
    }

    private static void hard() {
        BlowerBreath x = Towns.of("a000p03");
        long before = x.digest();
        C.due("28 hard(1, 1)", x.hard(1, 1), 3);
        C.due("28 hard(1, 20)", x.hard(1, 20), 3);
        C.due("28 hard(0, 20)", x.hard(0, 20), 0);
        C.due("28 aside", x.digest(), before);
        BlowerBreath y = Towns.of("a059p03");
        C.due("28 air for one hour", y.hard(1, 1), 0);
        C.due("28 for two", y.hard(1, 2), 1);
        C.due("28 for three", y.hard(1, 3), 2);
        C.due("28 a laugh", Towns.of("a000l09").hard(1, 1), BlowerBreath.NONE);
        C.due("28 old ones rest", Towns.of("a600o01").hard(1, 2), 0);
        C.due("28 old ones rest in the third", Towns.of("a600o01").hard(1, 3), BlowerBreath.NONE);
        BlowerBreath two = Towns.of("a000p03p04");
        C.due("28 of both", two.hard(3, 5), 7);
        C.due("28 of the second alone", two.hard(2, 1), 7);
        two.leak(0);
        C.due("28 with a leak", two.hard(1, 5), 4);
        two.cut(0);
        C.due("28 the second, the first cut", two.hard(2, 5), 4);
        C.due("28 one that is cut", two.hard(1, 1), BlowerBreath.NONE);
    }

    private static void hardRefused() {
        BlowerBreath x = Towns.of("a000p03p01");
        int[] bad = {4, 5, -1, 64, Integer.MIN_VALUE, Integer.MAX_VALUE};
        for (int set : bad) {
            C.due("28 hard(" + set + ", 1)", x.hard(set, 1), BlowerBreath.BAD);
        }
        C.due("28 hard(1, 0)", x.hard(1, 0), BlowerBreath.BAD);
        C.due("28 hard(1, 21)", x.hard(1, 21), BlowerBreath.BAD);
        C.due("28 without pipes", new BlowerBreath().hard(0, 1), BlowerBreath.STATE);
        C.due("28 a set of others without pipes", new BlowerBreath().hard(1, 1), BlowerBreath.BAD);
        C.due("28 n 0 without pipes", new BlowerBreath().hard(0, 0), BlowerBreath.BAD);
    }
}
