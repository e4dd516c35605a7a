import java.math.BigInteger;

/** Promises 33 to 38: whose needs, by turns, chances, lots. */
final class EdgesOfChances extends Edges {
    private static final BigInteger FACTOR = BigInteger.valueOf(48271);
    private static final BigInteger MODULUS = BigInteger.valueOf(2147483647);

    private void sets(Run x, int v, int sets, int first, int inEach, int inNone) {
        x.shares(sets, 1, "sets", v).gives(first, "asked");
        if (sets == 0) {
            x.finds(NOUGHT, "sure", v);
        } else {
            x.givesAndTells(inEach, inNone, "sure", v);
        }
    }

    @Says(promise = 33, words = "How many sets of PIPES WANT v (0 .. 99) together next HOUR, told by upper() "
        + "(lower() is 1); the first by asked() (bits; NONE): 1.")
    void p33_howManySetsWant() {
        Run x = town("a105p03s03b06").does("odds", 0, 5);
        x.shares(1, 1, "sets", 0).gives(0, "asked").shares(2, 1, "sets", 3).gives(1, "asked");
        x.shares(2, 1, "sets", 6).gives(3, "asked").shares(2, 1, "sets", 9).gives(5, "asked");
        x.shares(1, 1, "sets", 12).gives(7, "asked");
        // three of six; all; the most that six can want and be more than one set by 9 less
        Run six = town("a105p01p01p01p01p01p01").shares(20, 1, "sets", 3).gives(7, "asked");
        six.shares(1, 1, "sets", 6).gives(63, "asked");
        town("a105l09l09l09l09p09p09").shares(1, 1, "sets", 98).gives(63, "asked").shares(2, 1, "sets", 89)
            .gives(31, "asked");
        // an old one that wants none is in half of them
        Run old = town("a609o04t03").shares(2, 1, "sets", 4).gives(1, "asked").does("hour").does("hour");
        old.shares(2, 1, "sets", 4).gives(2, "asked").shares(2, 1, "sets", 0).gives(0, "asked");
    }

    @Says(promise = 33, words = "the first by asked() (bits; NONE): 1.")
    void p33_noSetWants() {
        town("a105p03s03b06").does("odds", 0, 5).shares(0, 1, "sets", 1).gives(NONE, "asked").shares(0, 1, "sets", 13)
            .gives(NONE, "asked").does("pipe", 0, 2).shares(0, 1, "sets", 99).gives(NONE, "asked");
    }

    @Says(promise = 33, words = "BAD; STATE: no PIPES.")
    void p33_setsRefused() {
        for (int v : new int[] {-1, 100, LEAST, MOST}) {
            town("a105p03").bad("sets", v);
            run().bad("sets", v);
        }
        run().state("sets", 0).state("sets", 99);
    }

    @Says(promise = 34, words = "PIPES (bits) that are in each such set; those in none by asked().")
    void p34_surelyInEachOrNone() {
        Run x = town("a105p03s03b06");
        sets(x, 0, 1, 0, 0, 7);
        sets(x, 3, 2, 1, 0, 4);
        sets(x, 6, 2, 3, 0, 0);
        sets(x, 9, 2, 5, 4, 0);
        sets(x, 12, 1, 7, 7, 0);
        sets(town("a105t09l09p09p09p09p09"), 66, 1, 63, 63, 0);
        sets(town("a105l09l09l09l09p09p09"), 98, 1, 63, 63, 0);
        // upper() is not told anew
        town("a105p03s03b06").does("sets", 6).does("sure", 12).gives(2, "upper").gives(1, "lower");
    }

    @Says(promise = 34, words = "BAD; STATE; NOUGHT: there is no set. (In this order.)")
    void p34_sureRefused() {
        for (int v : new int[] {-1, 100, LEAST, MOST}) {
            town("a105p03").bad("sure", v);
            run().bad("sure", v);
        }
        run().state("sure", 0).state("sure", 99);
        town("a105p03").finds(NOUGHT, "sure", 1).finds(NOUGHT, "sure", 99).gives(1, "sure", 3).gives(0, "sure", 0);
    }

    @Says(promise = 35, words = "By turns two CUT a PIPE, or join it again, or none, n (0 .. 2) times each, the "
        + "first one begins; then it is an HOUR: how many PIPES of even numbers more SAY something in it than of "
        + "uneven ones, the first one wanting that to be much, the other one little, told by asked(): 1.")
    void p35_byTurns() {
        Run one = town("a020p02");
        one.aside(() -> one.tells(1, "duel", 0).tells(0, "duel", 1).tells(0, "duel", 2));
        town("a020p02p02").tells(1, "duel", 0).tells(0, "duel", 1);
        // all even ones, all uneven ones, both
        town("a609p01p01p01p01p01").tells(1, "duel", 0).tells(1, "duel", 1).tells(1, "duel", 2);
        town("a609p01p01p01p01p01p01").tells(0, "duel", 0).tells(0, "duel", 1).tells(0, "duel", 2);
        town("a030p01p09p01p09p01p09").tells(3, "duel", 0).tells(2, "duel", 1).tells(2, "duel", 2);
        town("a030p09p01p09p01p09p01").tells(-3, "duel", 0).tells(-3, "duel", 1).tells(-3, "duel", 2);
        town("a000p01").tells(0, "duel", 0).tells(0, "duel", 2);
    }

    @Says(promise = 35, words = "CUT a PIPE, or join it again, or none")
    void p35_joinedOrNone() {
        // whatever the first one does, the other one joins 1 again, or cuts 0
        Run x = town("a609p01p01").does("cut", 1).tells(1, "duel", 0).tells(0, "duel", 1);
        x.does("cut", 0).tells(0, "duel", 0).tells(0, "duel", 1);
        x.does("cut", 1).tells(-1, "duel", 0).tells(-1, "duel", 1);
        // the other one joins again what the first one cut
        town("a010p09p01").tells(-1, "duel", 0).tells(-1, "duel", 1).tells(-1, "duel", 2);
        // the first one joins the only one, the other one cuts it; with no turn it stays cut
        town("a609p01").does("cut", 0).tells(0, "duel", 0).tells(0, "duel", 1).tells(0, "duel", 2);
    }

    @Says(promise = 35, words = "BAD; STATE: no PIPES.")
    void p35_duelRefused() {
        for (int n : new int[] {-1, 3, LEAST, MOST}) {
            town("a105p03").bad("duel", n);
            run().bad("duel", n);
        }
        run().state("duel", 0).state("duel", 2);
    }

    @Says(promise = 36, words = "Chances that a PIPE SAYS something next HOUR: 1.")
    void p36_chances() {
        Run x = town("a010p01").does("pipe", 0, 2);
        x.aside(() -> x.shares(1, 1, "odds", 0, 0).shares(11, 12, "odds", 0, 1).shares(3, 4, "odds", 0, 3)
            .shares(1, 12, "odds", 0, 11).shares(0, 1, "odds", 0, 12)).gives(1, "asked");
        // one that leaks already leaks for sure, by 0 of 12, too
        x.does("leak", 0).shares(0, 1, "odds", 0, 0).shares(0, 1, "odds", 0, 3);
        town("a020p01p01").shares(1, 4, "odds", 1, 6).shares(49, 144, "odds", 1, 5).shares(1, 1, "odds", 0, 5);
        town("a031p01p01p01").shares(27, 32, "odds", 2, 3).does("leak", 0).shares(9, 16, "odds", 2, 3);
        town("a060p01p01p01p01p01p01").shares(1771561, 2985984, "odds", 5, 1).shares(1, 2985984, "odds", 5, 11);
        town("a609p01").does("cut", 0).shares(0, 1, "odds", 0, 5);
        // the leak of one that is cut off is none
        town("a010p01p01").does("cut", 0).shares(7, 12, "odds", 1, 5);
    }

    @Says(promise = 36, words = "BAD.")
    void p36_oddsRefused() {
        Run x = town("a105p01p01").does("mid", 5).bad("odds", 0, -1).bad("odds", 0, 13).bad("odds", 0, MOST);
        x.bad("odds", 0, LEAST);
        for (int i : new int[] {-1, 2, 6, LEAST, MOST}) {
            x.bad("odds", i, 1);
        }
        run().bad("odds", 0, 0);
    }

    @Says(promise = 37, words = "The mean of how much AIR there is behind it: 1.")
    void p37_meanOfTheAir() {
        Run x = town("a030p01p01").does("pipe", 0, 2);
        x.aside(() -> x.shares(1, 4, "mid", 6).shares(4, 9, "mid", 4).shares(1, 1, "mid", 0).shares(0, 1, "mid", 12))
            .gives(1, "asked");
        x.does("leak", 0).shares(0, 1, "mid", 4);
        // 60 at most, 1 less for each by 1 of 12
        town("a609p01p01p01p01p01p01").shares(54, 1, "mid", 0).shares(107, 2, "mid", 1).shares(48, 1, "mid", 12);
        Run y = town("a509p01p11").shares(337, 6, "mid", 5).does("leak", 1).shares(667, 12, "mid", 5);
        y.does("cut", 0).shares(59, 1, "mid", 5);
    }

    @Says(promise = 37, words = "BAD; STATE: no PIPES.")
    void p37_midRefused() {
        for (int p : new int[] {-1, 13, LEAST, MOST}) {
            town("a105p03").does("odds", 0, 5).bad("mid", p);
            run().bad("mid", p);
        }
        run().state("mid", 0).state("mid", 12);
    }

    /** The seed from which this number comes first. */
    private static int ahead(int number) {
        return BigInteger.valueOf(number).multiply(FACTOR.modInverse(MODULUS)).mod(MODULUS).intValueExact();
    }

    @Says(promise = 38, words = "n (1 .. 20) DEEDS truly by LOTS of a seed: for each a number:")
    void p38_deedsTruly() {
        for (int n = 1; n <= 20; n++) {
            town(ALL_KINDS).does("lots", n, 5).counts(n, 4).gives(1, "undo", n - 1).gives(n - 1, "undo", 0);
        }
        // from seed 1: 48271 (hour), 182605794 (cut 0), 1291394886 (hour), 1914720637 (air), 2078669041 (stroke)
        Run x = town("a054p03s02").gives(11, "lots", 5, 1);
        int[] due = {2, 11, 3, 2, 5, 1, 0, 2, 3};
        for (int what = 0; what < due.length; what++) {
            x.counts(due[what], what);
        }
        x.gives(0, "asked").gives(0, "upper");
    }

    @Says(promise = 38, words = "PIPE it modulo how many there are, by what it by 8, cut, modulo 8 is: 0 to 3 an "
        + "HOUR")
    void p38_hours() {
        for (int what = 0; what <= 3; what++) {
            for (int rest : new int[] {0, 7}) {
                int seed = ahead(640 + 8 * what + rest);
                town("a101p02").gives(9, "lots", 1, seed).counts(1, 3).counts(1, 8).counts(1, 4);
            }
        }
    }

    @Says(promise = 38, words = "PIPE it modulo how many there are, by what it by 8, cut, modulo 8 is: 0 to 3 an "
        + "HOUR, 4 it is CUT, or joined again, 5 it LEAKS, or is mended")
    void p38_cutAndLeaks() {
        for (int rest = 0; rest < 8; rest++) {
            int cut = 64 + 32 + rest;
            int leak = 64 + 40 + rest;
            Run x = town("a105p01p01p01p01p01").gives(10, "lots", 1, ahead(cut)).counts(1 << cut % 5, 5).counts(0, 6);
            x.does("lots", 1, ahead(cut)).counts(0, 5).counts(2, 4).gives(10, "lots", 1, ahead(leak));
            x.counts(1 << leak % 5, 6).counts(0, 5).does("lots", 1, ahead(leak)).counts(0, 6).counts(0, 3);
        }
    }

    @Says(promise = 38, words = "6 the STROKE is it by 64, cut, modulo 10")
    void p38_strokes() {
        for (int stroke = 0; stroke <= 9; stroke++) {
            int number = 64 * (120 + stroke) + 48 + 7;
            town("a105p01").gives(10, "lots", 1, ahead(number)).counts(stroke, 2).counts(1, 4).counts(0, 3);
        }
        // one that is so already is one of the n DEEDS, too
        town("a105p01").does("lots", 1, ahead(64 * 125 + 48)).counts(5, 2).counts(1, 4).gives(1, "undo", 0)
            .counts(5, 2);
    }

    @Says(promise = 38, words = "7 the AIR is 1 more than it by 64, cut, modulo 9 more (60 at most; a DEED in any "
        + "case): the AIR then.")
    void p38_air() {
        for (int more = 0; more <= 8; more++) {
            int seed = ahead(64 * (90 + more) + 56 + 7);
            town("a105p01").gives(11 + more, "lots", 1, seed).counts(1, 4).counts(0, 3);
            town("a555p01").gives(Math.min(60, 56 + more), "lots", 1, seed).counts(1, 4);
            town("a605p01").gives(60, "lots", 1, seed).counts(60, 1).counts(1, 4).gives(1, "undo", 0).counts(60, 1);
        }
        // 60 at most is lived again when what comes behind is undone
        Run x = town("a555p01").does("lots", 1, ahead(64 * 98 + 56)).counts(60, 1).does("pump", -1).does("undo", 1);
        x.counts(60, 1).does("undo", 0).counts(55, 1);
    }

    @Says(promise = 38, words = "BAD; STATE: no PIPES;")
    void p38_lotsBadThenState() {
        int[][] bad = {
            {0, 1}, {-1, 1}, {21, 1}, {LEAST, 1}, {MOST, 1}, {1, 0}, {1, -1}, {1, 2147483647}, {1, LEAST}, {21, 0}};
        for (int[] a : bad) {
            town("a105p03").bad("lots", a[0], a[1]);
            run().bad("lots", a[0], a[1]);
        }
        run().state("lots", 1, 1).state("lots", 20, 2147483646);
        town("a105p03").does("lots", 1, 1).does("lots", 20, 2147483646).counts(21, 4);
    }

    @Says(promise = 38, words = "FULL: with n more there would be more than 40 DEEDS. (FULL last.)")
    void p38_lotsFullLast() {
        town(ALL_KINDS).does("lots", 20, 3).does("lots", 20, 4).counts(40, 4).full("lots", 1, 1).bad("lots", 0, 1)
            .bad("lots", 1, 0);
        town(ALL_KINDS).does("lots", 20, 3).does("leak", 0).full("lots", 20, 4).counts(21, 4).does("lots", 19, 4)
            .counts(40, 4);
        town("a105p01").times(39, "cut", 0).full("lots", 2, 1).does("lots", 1, 1).counts(40, 4).full("lots", 1, 1);
    }
}
