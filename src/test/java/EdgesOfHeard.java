/** Promises 29 to 32: what can be, by who spoke. */
final class EdgesOfHeard extends Edges {
    private static final int[] NO_ROWS = {-1, 6, LEAST, MOST};

    private void leaks(Run x, int sets, int least, int... spoke) {
        x.row(0, spoke).shares(sets, 1, "leaks", 0).gives(least, "asked");
    }

    /** BAD; STATE; NOTHING; SIZE; UNLIKE, each ahead of all that follow; call is asked of a ROW. */
    private void refusedInOrder(String call) {
        for (int r : NO_ROWS) {
            run().bad(call, r);
            town("a105p01").bad(call, r);
        }
        run().state(call, 0).state(call, 5).does("row", 0, 0).state(call, 0).row(0, 64).state(call, 0);
        Run x = town("a105p01p01").finds(NOTHING, call, 0).finds(NOTHING, call, 5);
        x.does("row", 0, 0).finds(SIZE, call, 0).does("row", 0, 11).does("lay", 0, 0, 4).finds(SIZE, call, 0);
        x.does("row", 0, 10).does("lay", 0, 9, 4).finds(UNLIKE, call, 0);
        x.row(5, 4).finds(UNLIKE, call, 5).row(5, -1).finds(UNLIKE, call, 5).row(5, 1, LEAST).finds(UNLIKE, call, 5);
        x.row(5, 3).does(call, 5);
    }

    @Says(promise = 29, words = "How many sets of PIPES may LEAK now by these, told by upper() (lower() is 1); the "
        + "least by asked() (bits; NONE): 1.")
    void p29_howManySetsMayLeak() {
        Run x = town("a040p02p02").does("odds", 0, 5);
        leaks(x, 1, 0, 3);
        leaks(x, 3, 1, 1);
        leaks(x, 3, 1, 1, 0);
        leaks(x, 1, 0, 3, 0, 0, 0, 0, 0, 0, 0, 0, 0);
        Run all = town("a609p01p01p01p01p01p01");
        leaks(all, 64, 0, 63);
        leaks(town("a010p01"), 1, 1, 0);
        leaks(town("a105 p03s12b14t02o22l41"), 42, 1, 15);
    }

    @Says(promise = 29, words = "the least by asked() (bits; NONE): 1.")
    void p29_noSetMayLeak() {
        Run x = town("a040p02p02").does("odds", 0, 5);
        leaks(x, 0, NONE, 0);
        leaks(x, 0, NONE, 2);
        leaks(x, 0, NONE, 1, 1);
        leaks(x, 0, NONE, 3, 0, 0, 0, 0, 0, 0, 0, 0, 1);
    }

    @Says(promise = 29, words = "may LEAK now by these")
    void p29_whateverLeaksNow() {
        // the sets are of all that leak, not of those that leak beyond what leaks already
        Run x = town("a040p02p02").does("leak", 0);
        leaks(x, 1, 0, 3);
        leaks(x, 3, 1, 1);
        // the leak of one that is cut off can't be heard
        x.does("cut", 1);
        leaks(x, 4, 0, 1);
        x.aside(() -> x.does("leaks", 0)).counts(1, 6);
    }

    @Says(promise = 29, words = "BAD; STATE: no PIPES; NOTHING; SIZE; UNLIKE. (In this order.)")
    void p29_leaksRefused() {
        refusedInOrder("leaks");
    }

    @Says(promise = 30, words = "The PIPE (the first) at which to listen in the HOUR behind these: the greatest "
        + "part of these sets by which it SAYS something then, or does not, is least; that part by asked().")
    void p30_whereToListen() {
        // 3 (none leaks), 2 (either one), 1 (both) are left; the first speaks by none, and by the second alone
        Run x = town("a070p02p02").row(0, 3).givesAndTells(0, 2, "listen", 0).givesAndTells(0, 2, "listen", 0);
        // 5, 4, 4, 3 are left: the first speaks always, the second not if both leak
        x.does("stroke", 2).givesAndTells(1, 3, "listen", 0);
        town("a060p02p02").row(0, 3).givesAndTells(0, 3, "listen", 0);
        // all alike: the first
        town("a609p01p01p01p01p01p01").row(0, 63).givesAndTells(0, 64, "listen", 0);
        // one set alone
        town("a060p02p02").row(5, 3, 1).givesAndTells(0, 1, "listen", 5);
        Run aside = town(ALL_KINDS).row(0, 15).does("mid", 5);
        aside.aside(() -> aside.givesAndTells(1, 38, "listen", 0).gives(15925, "upper").gives(82944, "lower"));
    }

    @Says(promise = 30, words = "NONE: there is no set.")
    void p30_noSetToListenFor() {
        town("a060p02p02").does("mid", 5).does("pipe", 0, 2).row(0, 0).none("listen", 0).row(0, 3, 3).none("listen", 0);
    }

    @Says(promise = 30, words = "BAD; STATE; NOTHING; SIZE; UNLIKE. (In this order.)")
    void p30_listenRefused() {
        refusedInOrder("listen");
    }

    @Says(promise = 31, words = "Which STROKES (bits 0 .. 9) there can be by these, all else as it is.")
    void p31_whichStrokes() {
        Run x = town("a005p03").row(0, 1).gives(1016, "strokes", 0).row(0, 0).gives(7, "strokes", 0);
        x.row(0, 0, 1).gives(4, "strokes", 0).row(0, 1, 0).gives(0, "strokes", 0);
        x.row(0, 0, 0, 0, 0, 0, 0, 0, 0, 0, 0).gives(1, "strokes", 0);
        x.does("leak", 0).row(0, 1).gives(1008, "strokes", 0).does("cut", 0).row(0, 0, 0).gives(1023, "strokes", 0);
        x.aside(() -> x.does("strokes", 0)).counts(5, 2);
    }

    @Says(promise = 31, words = "BAD; STATE; NOTHING; SIZE; UNLIKE. (In this order.)")
    void p31_strokesRefused() {
        refusedInOrder("strokes");
    }

    @Says(promise = 32, words = "Of which KINDS (bits) a PIPE can be by these, all else as it is.")
    void p32_whichKinds() {
        Run x = town("a040p04").row(0, 1).gives(23, "kinds", 0, 0).row(0, 0).gives(40, "kinds", 0, 0);
        x.row(0, 0, 1).gives(0, "kinds", 0, 0).aside(() -> x.does("kinds", 0, 0)).fact(0, 0, 0);
        // a babe takes what the next one would have
        town("a030p04p01").row(0, 2).gives(59, "kinds", 0, 0).row(0, 0).gives(4, "kinds", 0, 0);
        // an old one rests in hour 2
        town("a305p04").row(0, 1, 1, 0).gives(16, "kinds", 0, 0).row(0, 1, 1, 1).gives(47, "kinds", 0, 0);
        // a saver, or an old one, keeps 1 of what the next one wants
        town("a041s02p01").row(0, 3, 1).gives(18, "kinds", 0, 0);
        // what it saved is there whatever it is
        town("a030s02").does("hour").does("pump", 1).row(0, 1).gives(23, "kinds", 0, 0);
        town("a000p01").does("cut", 0).row(0, 0, 0, 0, 0, 0, 0, 0, 0, 0, 0).gives(63, "kinds", 0, 0);
        town("a100p01p01p01p01p01p09").row(5, 31).gives(63, "kinds", 5, 5);
    }

    @Says(promise = 32, words = "BAD; NOTHING; SIZE; UNLIKE. (In this order.)")
    void p32_kindsRefused() {
        for (int r : NO_ROWS) {
            town("a105p01").bad("kinds", 0, r).bad("kinds", 1, r);
            run().bad("kinds", 0, r);
        }
        for (int i : new int[] {-1, 2, 6, LEAST, MOST}) {
            town("a105p01p01").bad("kinds", i, 0).row(0, 4).bad("kinds", i, 0);
        }
        run().bad("kinds", 0, 0).row(0, 0).bad("kinds", 0, 0);
        Run x = town("a105p01p01").finds(NOTHING, "kinds", 1, 0).finds(NOTHING, "kinds", 0, 5);
        x.does("row", 0, 0).finds(SIZE, "kinds", 0, 0).does("row", 0, 11).does("lay", 0, 0, 4);
        x.finds(SIZE, "kinds", 0, 0).does("row", 0, 10).does("kinds", 0, 0).does("lay", 0, 9, 4);
        x.finds(UNLIKE, "kinds", 0, 0).row(0, -1).finds(UNLIKE, "kinds", 1, 0).row(0, 3).does("kinds", 1, 0);
    }
}
