/** Promises 14 to 21: hours and other deeds, undone, kept, gone on from. */
final class EdgesOfDeeds extends Edges {
    private static final String PIPE_AND_SAVER = "a054p03s02";

    /** Forty DEEDS, air 59, nothing CUT, nothing LEAKS. */
    private Run fullTown() {
        return town("a590p01").times(40, "leak", 0);
    }

    @Says(promise = 14, words = "An HOUR: who SAYS something in it (bits).")
    void p14_hourTellsWhoSpeaks() {
        Run x = town(PIPE_AND_SAVER);
        int[] spoke = {3, 3, 3, 3, 3, 1, 3};
        int[] air = {3, 1, 0, 0, 0, 1, 0};
        int[] saved = {1, 2, 2, 1, 0, 0, 0};
        for (int k = 0; k < spoke.length; k++) {
            x.gives(spoke[k], "hour").counts(air[k], 1).counts(saved[k], 7).counts(k + 1, 3).counts(k + 1, 4);
        }
        town("a609p01p01p01p01p01p01").gives(63, "hour");
        town("a000p01p01p01p01p01p01").gives(0, "hour");
    }

    @Says(promise = 14, words = "STATE: no PIPES; FULL: 40 DEEDS. (FULL last.)")
    void p14_hourRefused() {
        run().state("hour");
        run().text(0, "a105p01").state("hour");
        town("a000p01").times(39, "hour").counts(39, 4).gives(0, "hour").counts(40, 4).full("hour").full("hour");
    }

    @Says(promise = 15, words = "AIR n (1 .. 9) more, or less (-1 .. -9): how much there is then.")
    void p15_pumpMoreOrLess() {
        town("a300p01").gives(31, "pump", 1).gives(40, "pump", 9).gives(39, "pump", -1).gives(30, "pump", -9)
            .counts(30, 1).counts(4, 4).counts(0, 3);
        for (int n = 1; n <= 9; n++) {
            town("a300p01").gives(30 + n, "pump", n).gives(30, "pump", -n);
        }
    }

    @Says(promise = 15, words = "BAD; STATE: no PIPES")
    void p15_pumpBadThenState() {
        for (int n : new int[] {0, 10, -10, MOST, LEAST}) {
            town("a300p01").bad("pump", n);
            run().bad("pump", n);
        }
        run().state("pump", 1).state("pump", -1).state("pump", 9);
    }

    @Says(promise = 15, words = "or it would be above 60, below 0;")
    void p15_pumpAbove60Below0() {
        town("a590p01").state("pump", 2).gives(60, "pump", 1).state("pump", 1).state("pump", 9).counts(60, 1);
        town("a510p01").gives(60, "pump", 9);
        town("a520p01").state("pump", 9).gives(60, "pump", 8);
        town("a010p01").state("pump", -2).gives(0, "pump", -1).state("pump", -1).state("pump", -9).counts(0, 1);
        town("a090p01").gives(0, "pump", -9);
        town("a080p01").state("pump", -9).gives(0, "pump", -8);
    }

    @Says(promise = 15, words = "FULL. (FULL last.)")
    void p15_pumpFullLast() {
        fullTown().full("pump", 1).full("pump", -9).state("pump", 2).bad("pump", 0).bad("pump", 10);
        town("a000p01").times(39, "leak", 0).gives(1, "pump", 1).full("pump", 1).state("pump", -2);
    }

    @Says(promise = 16, words = "A PIPE is CUT, or joined again: 1 it is CUT then, 0 not.")
    void p16_cutOrJoined() {
        Run x = town("a309p01p11p01p01p01p01").gives(1, "cut", 5).counts(32, 5).gives(1, "cut", 0).counts(33, 5);
        x.gives(0, "cut", 5).counts(1, 5).gives(1, "cut", 1).gives(0, "cut", 0).counts(2, 5).gives(0, "cut", 1);
        x.counts(0, 5).counts(6, 4).counts(0, 6).counts(30, 1).counts(0, 3);
    }

    @Says(promise = 16, words = "BAD; FULL. (FULL last.)")
    void p16_cutRefused() {
        Run x = town("a309p01p01").bad("cut", 2).bad("cut", -1).bad("cut", 6).bad("cut", 32).bad("cut", MOST);
        x.bad("cut", LEAST).gives(1, "cut", 1);
        run().bad("cut", 0);
        fullTown().full("cut", 0).bad("cut", 1).bad("cut", -1);
        town("a590p01").times(39, "leak", 0).gives(1, "cut", 0).full("cut", 0);
    }

    @Says(promise = 17, words = "A PIPE LEAKS, or is mended: 1 it LEAKS then, 0 not.")
    void p17_leaksOrMended() {
        Run x = town("a309p01p11p01p01p01p01").gives(1, "leak", 5).counts(32, 6).gives(1, "leak", 0).counts(33, 6);
        x.gives(0, "leak", 5).counts(1, 6).gives(0, "leak", 0).counts(0, 6).counts(4, 4).counts(0, 5).counts(30, 1);
    }

    @Says(promise = 17, words = "BAD; FULL. (FULL last.)")
    void p17_leakRefused() {
        Run x = town("a309p01p01").bad("leak", 2).bad("leak", -1).bad("leak", 6).bad("leak", 32).bad("leak", MOST);
        x.bad("leak", LEAST).gives(1, "leak", 1);
        run().bad("leak", 0);
        fullTown().full("leak", 0).bad("leak", 1).bad("leak", -1);
        town("a590p01").times(39, "cut", 0).gives(1, "leak", 0).full("leak", 0);
    }

    @Says(promise = 18, words = "The STROKE (0 .. 9): what it was.")
    void p18_strokeTellsWhatItWas() {
        Run x = town("a005p09").gives(5, "stroke", 0).gives(0, "stroke", 9).counts(9, 2).gives(9, "stroke", 1);
        x.counts(1, 2).counts(3, 4).counts(0, 1).counts(0, 3).gives(0, "hour").counts(1, 1);
        for (int n = 1; n <= 9; n++) {
            town("a000p01").gives(0, "stroke", n).counts(n, 2);
        }
    }

    @Says(promise = 18, words = "BAD; STATE: no PIPES, or it is so;")
    void p18_strokeBadThenState() {
        for (int n : new int[] {-1, 10, MOST, LEAST}) {
            town("a005p01").bad("stroke", n);
            run().bad("stroke", n);
        }
        run().state("stroke", 0).state("stroke", 5);
        town("a005p01").state("stroke", 5).does("stroke", 4).state("stroke", 4).gives(4, "stroke", 5);
        town("a000p01").state("stroke", 0).gives(0, "stroke", 9).state("stroke", 9);
    }

    @Says(promise = 18, words = "FULL. (FULL last.)")
    void p18_strokeFullLast() {
        fullTown().full("stroke", 1).full("stroke", 9).state("stroke", 0).bad("stroke", 10).bad("stroke", -1);
        town("a005p01").times(39, "leak", 0).gives(5, "stroke", 1).full("stroke", 2).state("stroke", 1);
    }

    @Says(promise = 19, words = "DEEDS from number n on are undone: how many.")
    void p19_undoneFromANumberOn() {
        Run x = town(PIPE_AND_SAVER);
        long[] digests = new long[9];
        String[] names = {"hour", "leak", "pump", "hour", "cut", "stroke", "pump", "hour"};
        int[][] args = {{}, {1}, {9}, {}, {0}, {7}, {-2}, {}};
        for (int k = 0; k < 8; k++) {
            digests[k] = x.call("digest");
            x.does(names[k], args[k]);
        }
        digests[8] = x.call("digest");
        int deeds = 8;
        for (int n : new int[] {8, 7, 4, 4, 3, 1, 0, 0}) {
            x.gives(deeds - n, "undo", n).gives(digests[n], "digest").counts(n, 4);
            deeds = n;
        }
    }

    @Says(promise = 19, words = "DEEDS from number n on are undone: how many.")
    void p19_undoneOfForty() {
        Run x = town("a309o02l01").does("lots", 20, 7).does("lots", 20, 8).gives(0, "undo", 40).gives(1, "undo", 39);
        x.counts(39, 4).gives(39, "undo", 0).counts(0, 4).counts(0, 3).counts(30, 1).counts(9, 2).counts(0, 8);
        // those that came by what was kept are undone, too
        town("a309p01").does("hour").does("hour").does("keep", 0).does("undo", 0).does("pump", 1).does("on", 0)
            .gives(1, "undo", 1).counts(38, 1).gives(1, "undo", 0).counts(30, 1).counts(1, 13);
    }

    @Says(promise = 19, words = "DEEDS from number n on are undone: how many.")
    void p19_undoneOfNone() {
        Run none = run();
        none.aside(() -> none.gives(0, "undo", 0)).counts(0, 1).counts(0, 2).counts(0, 4);
        Run x = town("a105p01");
        x.aside(() -> x.gives(0, "undo", 0)).does("hour").aside(() -> x.gives(0, "undo", 1)).counts(1, 4);
    }

    @Says(promise = 19, words = "BAD.")
    void p19_undoRefused() {
        run().bad("undo", -1).bad("undo", 1).bad("undo", MOST).bad("undo", LEAST);
        Run x = town("a105p01").bad("undo", 1).does("hour").does("cut", 0).bad("undo", 3).bad("undo", -1);
        x.bad("undo", 40).bad("undo", MOST).bad("undo", LEAST).counts(2, 4);
        fullTown().bad("undo", 41).gives(0, "undo", 40);
    }

    @Says(promise = 20, words = "The TOWN (as it is, DEEDS) is kept in a place (0 .. 2): how many DEEDS.")
    void p20_keptAsItIs() {
        Run x = town(PIPE_AND_SAVER).gives(0, "keep", 0).counts(1, 13).does("hour").gives(1, "keep", 1).counts(2, 13);
        x.does("pump", 3).gives(2, "keep", 2).counts(3, 13).gives(2, "keep", 0).counts(3, 13);
        // deeds of later do not reach what is kept
        x.does("undo", 0).does("leak", 0).does("leak", 1).gives(2, "on", 2).counts(6, 1).counts(0, 6).counts(1, 3);
        fullTown().gives(40, "keep", 2).gives(40, "on", 2).full("hour");
    }

    @Says(promise = 20, words = "BAD; STATE: no PIPES.")
    void p20_keepRefused() {
        for (int k : new int[] {-1, 3, MOST, LEAST}) {
            town("a105p01").bad("keep", k);
            run().bad("keep", k);
        }
        run().state("keep", 0).state("keep", 2).counts(0, 13);
    }

    @Says(promise = 21, words = "The TOWN is as it was kept: how many DEEDS.")
    void p21_onAsItWasKept() {
        Run x = town(PIPE_AND_SAVER).does("hour").does("leak", 0).does("stroke", 9).does("cut", 1).does("keep", 2);
        long kept = x.call("digest");
        x.does("hour").does("cut", 0).does("pump", 4).gives(4, "on", 2).gives(kept, "digest").gives(1, "undo", 3);
        x.gives(4, "on", 2).gives(kept, "digest").does("undo", 0).does("hour").gives(4, "on", 2).gives(kept, "digest");
        x.times(36, "leak", 1).full("hour").gives(4, "on", 2).gives(kept, "digest");
        // kept without DEEDS
        town("a309p01").does("keep", 0).does("hour").gives(0, "on", 0).counts(30, 1).counts(0, 4).counts(1, 13);
    }

    @Says(promise = 21, words = "BAD; NOTHING.")
    void p21_onRefused() {
        Run x = town("a105p01").does("hour").does("keep", 1).finds(NOTHING, "on", 0).finds(NOTHING, "on", 2);
        x.bad("on", 3).bad("on", -1).bad("on", MOST).bad("on", LEAST).does("town", 0).finds(NOTHING, "on", 1);
        run().finds(NOTHING, "on", 0).finds(NOTHING, "on", 2).bad("on", 3);
    }
}
