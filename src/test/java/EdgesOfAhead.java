/** Promises 22 to 28: what comes, and what it takes so that one speaks. */
final class EdgesOfAhead extends Edges {
    private static final String PIPE_AND_SAVER = "a054p03s02";
    private static final int[] NO_PIPES = {-1, 2, 6, 32, LEAST, MOST};

    @Says(promise = 22, words = "How much a PIPE WANTS of a NEED (1 .. 9) in an HOUR of a number (0 .. 99).")
    void p22_wantsOfANeed() {
        Run x = town(ALL_KINDS).does("hour");
        for (int need = 1; need <= 9; need++) {
            x.gives(need, "wants", 0, need, 0).gives(need, "wants", 1, need, 99).gives(need, "wants", 2, need, 2);
            x.gives(need + 1, "wants", 3, need, 2).gives(need, "wants", 4, need, 99).gives(0, "wants", 4, need, 98);
            x.gives(0, "wants", 4, need, 2).gives(2 * need + 2, "wants", 5, need, 98);
        }
    }

    @Says(promise = 22, words = "BAD.")
    void p22_wantsRefused() {
        Run x = town("a105p05p05").bad("wants", 0, 0, 0).bad("wants", 0, 10, 0).bad("wants", 0, 1, -1);
        x.bad("wants", 0, 1, 100).bad("wants", 0, MOST, 0).bad("wants", 0, LEAST, 0).bad("wants", 0, 1, MOST);
        x.bad("wants", 0, 1, LEAST);
        for (int i : NO_PIPES) {
            x.bad("wants", i, 1, 0);
        }
        run().bad("wants", 0, 1, 0);
    }

    @Says(promise = 23, words = "The AIR behind n (0 .. 40) HOURS; who SAYS something in the last one of these by "
        + "asked() (bits; 0: n is 0).")
    void p23_airBehindHours() {
        int[] air = {5, 3, 1, 0, 0, 0, 1, 0};
        int[] spoke = {0, 3, 3, 3, 3, 3, 1, 3};
        Run x = town(PIPE_AND_SAVER).does("pipe", 0, 2);
        x.aside(() -> {
            for (int n = 7; n >= 0; n--) {
                x.givesAndTells(air[n], spoke[n], "air", n);
            }
        });
        // 40 hours, and 40 more behind 40 DEEDS: 1 an hour, 9 wanted
        Run y = town("a001p09").givesAndTells(4, 0, "air", 40).givesAndTells(0, 1, "air", 36).times(40, "hour");
        y.givesAndTells(4, 0, "air", 0).givesAndTells(8, 0, "air", 40).givesAndTells(0, 1, "air", 32);
    }

    @Says(promise = 23, words = "BAD; STATE: no PIPES.")
    void p23_airRefused() {
        for (int n : new int[] {-1, 41, MOST, LEAST}) {
            town("a105p01").bad("air", n);
            run().bad("air", n);
        }
        run().state("air", 0).state("air", 40);
    }

    @Says(promise = 24, words = "How often a PIPE would SAY something in the next n (0 .. 40) HOURS.")
    void p24_howOftenItWouldSay() {
        Run x = town(PIPE_AND_SAVER);
        x.aside(() -> x.gives(0, "says", 1, 0).gives(5, "says", 1, 5).gives(5, "says", 1, 6).gives(6, "says", 1, 7)
            .gives(40, "says", 0, 40));
        x.times(5, "hour").gives(0, "says", 1, 1).gives(1, "says", 1, 2).gives(0, "says", 1, 0);
        town("a609p01").times(40, "hour").gives(40, "says", 0, 40);
        town("a609p01").does("cut", 0).gives(0, "says", 0, 40);
    }

    @Says(promise = 24, words = "BAD.")
    void p24_saysRefused() {
        Run x = town("a105p01p01").bad("says", 0, -1).bad("says", 0, 41).bad("says", 0, MOST).bad("says", 0, LEAST);
        for (int i : NO_PIPES) {
            x.bad("says", i, 1);
        }
        run().bad("says", 0, 0);
    }

    @Says(promise = 25, words = "In how many HOURS (1 .. 40) a PIPE SAYS something first.")
    void p25_firstInOneToForty() {
        town("a100p09").gives(1, "first", 0);
        town("a001p09").gives(9, "first", 0).does("hour").gives(8, "first", 0);
        town("a609o01").does("hour").does("hour").gives(2, "first", 0);
        // in three hours 21 are blown and 20 taken: in the 40th 13 are left, 7 are blown, the old one rests
        Run x = town("a000o09l09").does("hour").does("hour").does("stroke", 7);
        x.aside(() -> x.gives(40, "first", 1));
    }

    @Says(promise = 25, words = "NONE: in none of these.")
    void p25_firstInNone() {
        town("a000p01").none("first", 0);
        town("a001b09").none("first", 0);
        town("a609p01").does("cut", 0).none("first", 0);
        // in the 41st, and an hour later in the 40th
        Run x = town("a000o02o03l09").does("hour").does("stroke", 5).none("first", 2);
        x.does("hour").gives(40, "first", 2);
    }

    @Says(promise = 25, words = "BAD.")
    void p25_firstRefused() {
        for (int i : NO_PIPES) {
            town("a105p01p01").bad("first", i);
        }
        run().bad("first", 0);
    }

    @Says(promise = 26, words = "The fewest other PIPES to be CUT now (beyond those that are) so that a PIPE SAYS "
        + "something next HOUR;")
    void p26_fewestToBeCut() {
        Run x = town("a050p03p03p03");
        x.aside(() -> x.givesAndTells(0, 0, "hush", 0).givesAndTells(1, 1, "hush", 1).givesAndTells(2, 3, "hush", 2));
        // one that is cut already is not to be cut, nor told
        x.does("cut", 0).givesAndTells(1, 2, "hush", 2).does("cut", 1).givesAndTells(0, 0, "hush", 2);
        town("a010p01p01p01p01p01p01").givesAndTells(5, 31, "hush", 5);
        // a leak is to be cut, too, although it takes nothing else
        town("a020p09p02").does("leak", 0).givesAndTells(1, 1, "hush", 1);
    }

    @Says(promise = 26, words = "of like ones the least set of them by asked().")
    void p26_leastSetOfLikeOnes() {
        town("a040p02p02p02").givesAndTells(1, 1, "hush", 2);
        town("a060p02p03p05p04").givesAndTells(1, 2, "hush", 3);
        town("a060p03p02p01p04").givesAndTells(2, 3, "hush", 3);
        // cutting 2 and 3 is of like number; 4 alone is fewer, although it is a greater number
        town("a070p01p01p01p01p03p03").givesAndTells(1, 16, "hush", 5);
        // by its root a whole branch is cut off
        town("a070p01p11p11p11p13p03").givesAndTells(1, 1, "hush", 5);
    }

    @Says(promise = 26, words = "NONE: it can't be.")
    void p26_itCantBe() {
        town("a090l09").none("hush", 0);
        town("a609p01").does("cut", 0).none("hush", 0);
        town("a609p01p11").does("cut", 0).none("hush", 1);
        // only what it hangs on could be cut
        town("a030p02p13p01").none("hush", 1);
        town("a609o01").does("hour").does("hour").none("hush", 0);
        // its own leak can't be helped
        town("a010p01").does("leak", 0).none("hush", 0);
    }

    @Says(promise = 26, words = "BAD.")
    void p26_hushRefused() {
        for (int i : NO_PIPES) {
            town("a105p01p01").bad("hush", i);
        }
        run().bad("hush", 0);
    }

    @Says(promise = 27, words = "The least AIR more (0 .. 60; 60 at most in all) by which a PIPE SAYS something "
        + "next HOUR.")
    void p27_leastAirMore() {
        Run x = town("a050p03p03p03");
        x.aside(() -> x.gives(0, "least", 0).gives(1, "least", 1).gives(4, "least", 2));
        town("a009l09").gives(11, "least", 0);
        town("a000p09p09p09p09p08l07").gives(60, "least", 5);
        town("a550p09p09p09p09p08l07").gives(5, "least", 5);
        town("a600p09p09p09p09p08l07").gives(0, "least", 5);
        // with the stroke it is 60 at most, too: 60 are due, 9 of them are blown
        town("a009p09p09p09p09p08l07").gives(51, "least", 5);
        // by 3 more; by 4 or 5 more another one takes it
        town("a040p05p03p02").does("cut", 0).gives(1, "least", 2);
        town("a040p05p03p02").gives(3, "least", 2);
        Run saved = town("a030s02").does("hour").gives(1, "least", 0);
        saved.does("leak", 0).gives(2, "least", 0);
    }

    @Says(promise = 27, words = "NONE: by none.")
    void p27_leastByNone() {
        town("a000p09p09p09p09p09l07").none("least", 5);
        town("a550p09p09p09p09p09l07").none("least", 5);
        town("a009p09p09p09p09p09l07").none("least", 5);
        town("a600p09p09p09p09p09l07").none("least", 5);
        town("a609p01").does("cut", 0).none("least", 0);
        town("a609o01").does("hour").does("hour").none("least", 0);
    }

    @Says(promise = 27, words = "BAD.")
    void p27_leastRefused() {
        for (int i : NO_PIPES) {
            town("a105p01p01").bad("least", i);
        }
        run().bad("least", 0);
    }

    @Says(promise = 28, words = "The least STROKE (0 .. 9) by which each PIPE of a set SAYS something as often as n "
        + "(1 .. 20) times in the next n HOURS.")
    void p28_leastStroke() {
        Run x = town("a000p03p04");
        x.aside(() -> x.gives(3, "hard", 1, 1).gives(3, "hard", 1, 20).gives(7, "hard", 3, 20).gives(7, "hard", 2, 1));
        x.gives(0, "hard", 0, 1).gives(0, "hard", 0, 20);
        town("a000p09").gives(9, "hard", 1, 20);
        town("a059p03").gives(0, "hard", 1, 1).gives(1, "hard", 1, 2).gives(2, "hard", 1, 3);
        // 57 at first: for 19 hours, not for 20
        town("a579p03").gives(0, "hard", 1, 19).gives(1, "hard", 1, 20);
        // what was said ahead does not count
        town("a030p03").does("hour").gives(3, "hard", 1, 1);
        town("a609p01p01p01p01p01p01").gives(0, "hard", 63, 10).gives(1, "hard", 63, 11);
    }

    @Says(promise = 28, words = "NONE: by none.")
    void p28_hardByNone() {
        town("a000t09").none("hard", 1, 1).none("hard", 1, 20);
        town("a000p05p05").gives(5, "hard", 1, 1).none("hard", 3, 1);
        town("a600o01").gives(0, "hard", 1, 2).none("hard", 1, 3);
        town("a609p01").does("cut", 0).none("hard", 1, 1).gives(0, "hard", 0, 1);
    }

    @Says(promise = 28, words = "BAD: also a set of others, or n; STATE: no PIPES.")
    void p28_hardRefused() {
        for (int set : new int[] {-1, 4, 5, 64, LEAST, MOST}) {
            town("a105p01p01").bad("hard", set, 1);
        }
        for (int n : new int[] {0, -1, 21, LEAST, MOST}) {
            town("a105p01p01").bad("hard", 1, n).bad("hard", 0, n);
            run().bad("hard", 0, n);
        }
        town("a105p01p01p01p01p01p01").gives(0, "hard", 63, 1).bad("hard", 64, 1);
        run().state("hard", 0, 1).state("hard", 0, 20).bad("hard", 1, 1);
    }
}
