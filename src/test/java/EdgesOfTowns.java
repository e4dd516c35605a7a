/** Promises 11 to 13: towns by texts, what a pipe is, what its kind tells. */
final class EdgesOfTowns extends Edges {
    @Says(promise = 11, words = "A TOWN by a TEXT (anew: HOUR 0, nothing CUT, no DEEDS; kept TOWNS go): how many "
        + "PIPES.")
    void p11_townAnew() {
        Run x = town("a309p01s01").does("hour").does("cut", 0).does("leak", 1).does("stroke", 2).does("keep", 0);
        x.does("keep", 1).does("keep", 2).counts(3, 13).gives(2, "town", 0);
        int[] due = {2, 30, 9, 0, 0, 0, 0, 0, 0, 1, 0, 0, 1, 0};
        for (int what = 0; what < due.length; what++) {
            x.counts(due[what], what);
        }
        x.fact(0, 1, 4).fact(0, 0, 5).fact(0, 0, 6).fact(0, 1, 7).gives(0, "undo", 0);
        x.finds(NOTHING, "on", 0).finds(NOTHING, "on", 1).finds(NOTHING, "on", 2);
    }

    @Says(promise = 11, words = "how many PIPES.")
    void p11_howManyPipes() {
        StringBuilder signs = new StringBuilder("a105");
        for (int n = 1; n <= 6; n++) {
            signs.append("p01");
            run().text(n % 4, signs.toString()).gives(n, "town", n % 4).counts(n, 0);
        }
        // fewer than the town ahead had
        Run x = town(ALL_KINDS).text(1, "a204s02").gives(1, "town", 1).counts(1, 0).bad("pipe", 1, 0).bad("cut", 1);
        x.fact(1, 0, 0).gives(1, "hour").counts(21, 1);
    }

    @Says(promise = 11, words = "A TOWN by a TEXT")
    void p11_townDoesNotHangOnItsText() {
        Run x = town("a105p01").does("hour").text(0, "x").counts(1, 0).does("undo", 0).counts(10, 1);
        x.does("text", 0, 0).gives(1, "hour");
        // what is not of the town stays
        Run y = run().row(0, 5).town("a105p01").does("mid", 0).does("at", 0, 0).does("town", 0);
        y.gives(5, "asked").gives(14, "upper").tells(5, "at", 0, 0);
    }

    @Says(promise = 11, words = "BAD; NOTHING; STATE: a FAULT. (STATE behind NOTHING.)")
    void p11_townRefused() {
        Run x = town("a105p01").does("hour").does("keep", 0).text(1, "a615p01");
        x.state("town", 1).finds(NOTHING, "town", 2).finds(NOTHING, "town", 3).bad("town", 4).bad("town", -1);
        x.bad("town", MOST).bad("town", LEAST).does("text", 1, 0).state("town", 1).does("text", 1, 60).state("town", 1);
        x.counts(1, 0).counts(1, 13).gives(1, "on", 0);
        run().finds(NOTHING, "town", 0).text(0, "a105").state("town", 0).counts(0, 0).state("hour");
    }

    @Says(promise = 12, words = "Of a PIPE: 0 the KIND, 1 the PIPE from which it branches (NONE: the bellows), 2 "
        + "its NEED, 3 how much it WANTS next HOUR")
    void p12_whatWasTold() {
        Run x = town(ALL_KINDS);
        int[][] due = {{0, -9, 3, 3}, {1, 0, 2, 2}, {2, 0, 4, 4}, {3, -9, 2, 3}, {4, 1, 2, 2}, {5, 3, 1, 4}};
        for (int i = 0; i < 6; i++) {
            for (int what = 0; what < 4; what++) {
                x.fact(due[i][what], i, what);
            }
        }
        Run old = town("a000o07");
        for (int number = 0; number <= 40; number++) {
            old.fact(number % 3 == 2 ? 0 : 7, 0, 3);
            old.does(number < 40 ? "hour" : "finding");
        }
    }

    @Says(promise = 12, words = "4 how much it SAVED, 5 how often it SAID something")
    void p12_savedAndSaid() {
        Run x = town("a609s01p01").fact(0, 0, 4).fact(0, 0, 5).times(20, "hour").fact(20, 0, 4).fact(20, 0, 5);
        x.fact(0, 1, 4).fact(20, 1, 5).times(20, "hour").fact(20, 0, 4).fact(40, 0, 5);
    }

    @Says(promise = 12, words = "6 whether it is CUT OFF (1, 0), 7 whether it LEAKS (1, 0), told by asked(): 1.")
    void p12_cutOffAndLeaks() {
        Run x = town("a309p01p11").fact(0, 1, 6).does("cut", 0).fact(1, 0, 6).fact(1, 1, 6).does("cut", 0);
        x.fact(0, 1, 6).does("cut", 1).fact(0, 0, 6).fact(1, 1, 6);
        x.fact(0, 1, 7).does("leak", 1).fact(1, 1, 7).fact(0, 0, 7).does("leak", 1).fact(0, 1, 7);
    }

    @Says(promise = 12, words = "BAD.")
    void p12_pipeRefused() {
        Run x = town("a105p01p01").gives(1, "pipe", 1, 7).bad("pipe", 2, 0).bad("pipe", -1, 0).bad("pipe", 0, 8);
        x.bad("pipe", 0, -1).bad("pipe", MOST, 0).bad("pipe", LEAST, 0).bad("pipe", 0, MOST).bad("pipe", 0, LEAST);
        x.bad("pipe", 6, 0).bad("pipe", 32, 0);
        run().bad("pipe", 0, 0);
    }

    @Says(promise = 13, words = "What a PIPE that IS of a KIND tells: a SAVER (OLD, too) how much more it could SAVE")
    void p13_howMuchMoreASaverCouldSave() {
        for (char kind : new char[] {'s', 'o'}) {
            town("a609" + kind + "01").gives(20, "mark", 0, 1).does("hour").gives(19, "mark", 0, 1);
        }
        town("a609s01").times(19, "hour").gives(1, "mark", 0, 1).does("hour").gives(0, "mark", 0, 1).does("hour")
            .gives(0, "mark", 0, 1);
    }

    @Says(promise = 13, words = "a BABE how much less than its NEED the AIR is now (0 at least)")
    void p13_howMuchABabeLacks() {
        int[][] airs = {{0, 9}, {1, 8}, {8, 1}, {9, 0}, {10, 0}, {60, 0}};
        for (int[] a : airs) {
            // as the air is now: what is blown next does not count
            town(String.format("a%02d9b09", a[0])).gives(a[1], "mark", 0, 2);
        }
    }

    @Says(promise = 13, words = "a SIGH (LAUGH, too) how much it WANTS beyond its NEED next HOUR")
    void p13_howMuchASighWantsBeyond() {
        town("a000t01").gives(1, "mark", 0, 3);
        town("a000t09").gives(1, "mark", 0, 3);
        town("a000l01").gives(3, "mark", 0, 3);
        town("a000l09").gives(11, "mark", 0, 3);
    }

    @Says(promise = 13, words = "an OLD one in how many HOURS it WANTS none next (0: next HOUR)")
    void p13_whenAnOldOneRests() {
        Run x = town("a000o01");
        for (int number = 0; number < 40; number++) {
            x.gives(new int[] {2, 1, 0}[number % 3], "mark", 0, 4).does("hour");
        }
    }

    @Says(promise = 13, words = "a LAUGH how many PIPES, itself too, WANT less than it does next HOUR or as much.")
    void p13_howManyWantNoMoreThanALaugh() {
        town("a000l01").gives(1, "mark", 0, 5);
        // it wants 6: 5, 6, 7 of a pipe, 6 of a sigh
        town("a000p05p06p07t05l02").gives(4, "mark", 4, 5);
        town("a000p09p09l01p09p09p09").gives(1, "mark", 2, 5);
        town("a000p09p09l09p09p09p09").gives(6, "mark", 2, 5);
        // an old one wants none in hour 2; one that is cut off wants as ever
        Run x = town("a000l01o09").gives(1, "mark", 0, 5).does("hour").gives(1, "mark", 0, 5).does("hour");
        x.gives(2, "mark", 0, 5).does("cut", 1).gives(2, "mark", 0, 5).does("hour").gives(1, "mark", 0, 5);
    }

    @Says(promise = 13, words = "BAD: also KIND 0; UNLIKE.")
    void p13_markRefused() {
        Run x = town("a105p01l01").bad("mark", 0, 0).bad("mark", 1, 0).bad("mark", 0, 6).bad("mark", 0, -1);
        x.bad("mark", 2, 1).bad("mark", -1, 1).bad("mark", 0, MOST).bad("mark", 0, LEAST).bad("mark", MOST, 1);
        x.bad("mark", 2, 0);
        run().bad("mark", 0, 1);
        // what each kind is: as bits 1 .. 5
        int[] is = {0, 2, 4, 8, 2 + 16, 8 + 32};
        for (int i = 0; i < 6; i++) {
            Run y = town(ALL_KINDS);
            for (int kind = 1; kind <= 5; kind++) {
                if ((is[i] >> kind & 1) == 1) {
                    y.does("mark", i, kind);
                } else {
                    y.finds(UNLIKE, "mark", i, kind);
                }
            }
        }
    }
}
