/** Terms, ahead of their three parts: what is refused and in which order, FINDINGS, how numbers and sets are told. */
final class EdgesOfTerms extends Edges {
    /** Air 59 and forty DEEDS: no room for one more. */
    private Run fullTown() {
        return town("a590p01").times(40, "cut", 0);
    }

    /** Something of all that there can be, so that a refusal could spoil it. */
    private Run richTown() {
        return town(ALL_KINDS).text(1, "a61").row(0, 64).row(1, 7, -7).does("row", 2, 0).does("row", 3, 11)
            .does("hour").does("leak", 1).does("keep", 1).does("mid", 5).does("at", 1, 1);
    }

    @Says(promise = 0, words = "An object is used for at most 512 calls after it has been made; what later calls "
        + "answer is free.")
    void p00_the512thCallIsAnswered() {
        Run x = run();
        while (x.calls() < 511) {
            x.call("tear", 5);
        }
        x.gives(511, "findings", 1);
        due("calls", x.calls(), 512);
    }

    @Says(promise = 0, words = "BAD -1 (a number that is none, or not as told)")
    void p00_badIsANumberThatIsNone() {
        due("BAD", BlowerBreath.BAD, -1);
        town(ALL_KINDS).bad("pipe", 6, 0).bad("pipe", -1, 0).bad("pipe", 0, 8).bad("tear", 6).bad("fault", 4);
        town(ALL_KINDS).bad("pump", 0).bad("pump", 10).bad("stroke", 10).bad("wants", 0, 10, 0).bad("duel", 3);
    }

    @Says(promise = 0, words = "Refused is, the first of these that fits, in this order: BAD -1")
    void p00_badIsAheadOfFull() {
        fullTown().bad("pump", 0).bad("pump", -10).bad("cut", 1).bad("cut", -1).bad("leak", 1).bad("stroke", 10);
        fullTown().bad("undo", 41).bad("undo", -1).bad("lots", 0, 1).bad("lots", 21, 1).bad("lots", 1, 0);
    }

    @Says(promise = 0, words = "Refused is, the first of these that fits, in this order: BAD -1")
    void p00_badIsAheadOfState() {
        run().bad("pump", 0).bad("pump", 10).bad("stroke", -1).bad("stroke", 10).bad("keep", 3).bad("air", 41);
        run().bad("air", -1).bad("hard", 0, 0).bad("hard", 1, 1).bad("hard", 0, 21).bad("leaks", 6).bad("listen", 6);
        run().bad("strokes", -1).bad("sets", -1).bad("sets", 100).bad("sure", 100).bad("duel", 3).bad("mid", 13);
        run().bad("lots", 0, 1).bad("lots", 1, 0).bad("town", 4);
        town("a105p01").bad("stroke", 15);
    }

    @Says(promise = 0, words = "Refused is, the first of these that fits, in this order: BAD -1")
    void p00_badIsAheadOfFindings() {
        run().bad("row", 6, -1).bad("text", 4, -1).bad("lay", 6, 40, 0).bad("at", -1, -1).bad("copy", 6, 0, 0, 0, -1);
        run().bad("copy", 0, 0, 6, 0, -1).bad("mean", 6).bad("put", 4, 60, 0).bad("fault", -1).bad("on", 3);
        town("a105p01").bad("mark", 1, 1).bad("mark", 0, 6).bad("kinds", 1, 0).bad("kinds", 0, 6).bad("sure", 100);
    }

    @Says(promise = 0, words = "FULL -2, STATE -4 (not now)")
    void p00_fullAndState() {
        due("FULL", BlowerBreath.FULL, -2);
        due("STATE", BlowerBreath.STATE, -4);
        fullTown().full("hour").full("pump", 1).full("cut", 0).full("leak", 0).full("stroke", 1).full("lots", 1, 1);
        run().state("hour").state("pump", 1).state("stroke", 1).state("keep", 0).state("air", 0).state("hard", 0, 1);
        run().state("sets", 0).state("duel", 0).state("mid", 0).state("lots", 1, 1);
    }

    @Says(promise = 0, words = "STATE -4 (not now), SPENT -6 (more than told), FINDING -3 (finding() tells which)")
    void p00_stateIsAheadOfFindings() {
        run().state("leaks", 0).state("listen", 0).state("strokes", 0).state("sure", 99);
        run().does("row", 0, 0).state("leaks", 0).state("listen", 0).state("strokes", 0);
        run().row(0, 64).state("leaks", 0).state("listen", 0).state("strokes", 0);
    }

    @Says(promise = 0, words = "SPENT -6 (more than told)")
    void p00_spent() {
        due("SPENT", BlowerBreath.SPENT, -6);
    }

    @Says(promise = 0, words = "FINDING -3 (finding() tells which)")
    void p00_findingTellsWhich() {
        due("FINDING", BlowerBreath.FINDING, -3);
        Run x = town("a105p01").does("row", 0, 0);
        x.finds(NOTHING, "at", 1, 0).finds(BEYOND, "at", 0, 0).finds(UNLIKE, "mark", 0, 1).finds(NOUGHT, "mean", 0);
        x.finds(SIZE, "row", 0, -1).finds(NOTHING, "on", 0);
    }

    @Says(promise = 0, words = "unless a call says so otherwise.")
    void p00_fullLastWhereACallSaysSo() {
        fullTown().state("pump", 2).state("stroke", 0);
        town("a030p01").times(40, "leak", 0).state("pump", -4).state("stroke", 0);
    }

    @Says(promise = 0, words = "NONE -9.")
    void p00_none() {
        due("NONE", BlowerBreath.NONE, -9);
        town("a000l09").none("first", 0).none("hush", 0).none("hard", 1, 1).fact(-9, 0, 1);
    }

    private static final Object[][] BAD_CALLS = {
        {"row", 6, 1}, {"row", 0, 41}, {"lay", 6, 0, 1}, {"at", 6, 0}, {"tear", 6}, {"copy", 6, 0, 0, 0, 1},
        {"copy", 0, 0, 6, 0, 1}, {"mean", 6}, {"text", 4, 1}, {"text", 0, 61}, {"put", 4, 0, 1}, {"fault", 4},
        {"town", 4}, {"pipe", 6, 0}, {"pipe", 0, 8}, {"mark", 6, 1}, {"mark", 1, 0}, {"pump", 10}, {"cut", 6},
        {"leak", 6}, {"stroke", 10}, {"undo", -1}, {"undo", 3}, {"keep", 3}, {"on", 3}, {"wants", 6, 1, 1},
        {"wants", 0, 10, 1}, {"wants", 0, 1, 100}, {"air", 41}, {"says", 6, 1}, {"says", 0, 41}, {"first", 6},
        {"hush", 6}, {"least", 6}, {"hard", 64, 1}, {"hard", 1, 21}, {"leaks", 6}, {"listen", 6}, {"strokes", 6},
        {"kinds", 6, 0}, {"kinds", 0, 6}, {"sets", 100}, {"sure", 100}, {"duel", 3}, {"odds", 6, 1}, {"odds", 0, 13},
        {"mid", 13}, {"lots", 21, 1}, {"lots", 1, 0}, {"count", 14}, {"findings", 6}};

    /** Behind the first number there is the FINDING. */
    private static final Object[][] FINDING_CALLS = {
        {SIZE, "row", 1, -1}, {NOTHING, "lay", 4, 0, 1}, {BEYOND, "lay", 1, 2, 1}, {NOTHING, "at", 4, 0},
        {BEYOND, "at", 1, 2}, {NOTHING, "tear", 4}, {SIZE, "copy", 1, 0, 1, 1, -1}, {NOTHING, "copy", 4, 0, 1, 0, 1},
        {NOTHING, "copy", 1, 0, 4, 0, 1}, {BEYOND, "copy", 1, 0, 1, 1, 2}, {NOTHING, "mean", 4}, {NOUGHT, "mean", 2},
        {SIZE, "text", 0, -1}, {NOTHING, "put", 2, 0, 1}, {BEYOND, "put", 1, 3, 1}, {NOTHING, "fault", 2},
        {NOTHING, "town", 2}, {UNLIKE, "mark", 0, 1}, {NOTHING, "on", 0}, {NOTHING, "leaks", 4}, {SIZE, "leaks", 2},
        {SIZE, "leaks", 3}, {UNLIKE, "leaks", 0}, {NOTHING, "listen", 4}, {SIZE, "listen", 2}, {SIZE, "listen", 3},
        {UNLIKE, "listen", 0}, {NOTHING, "strokes", 4}, {SIZE, "strokes", 2}, {SIZE, "strokes", 3},
        {UNLIKE, "strokes", 0}, {NOTHING, "kinds", 0, 4}, {SIZE, "kinds", 0, 2}, {SIZE, "kinds", 0, 3},
        {UNLIKE, "kinds", 0, 0}, {NOUGHT, "sure", 99}};

    private static int[] numbers(Object[] call, int from) {
        int[] args = new int[call.length - from];
        for (int k = 0; k < args.length; k++) {
            args[k] = (Integer) call[from + k];
        }
        return args;
    }

    @Says(promise = 0, words = "What is refused changes nothing but finding(), findings().")
    void p00_badChangesNothing() {
        for (Object[] call : BAD_CALLS) {
            richTown().bad((String) call[0], numbers(call, 1));
        }
    }

    @Says(promise = 0, words = "What is refused changes nothing but finding(), findings().")
    void p00_findingsChangeNothingElse() {
        for (Object[] call : FINDING_CALLS) {
            richTown().finds((Integer) call[0], (String) call[1], numbers(call, 2));
        }
    }

    @Says(promise = 0, words = "What is refused changes nothing but finding(), findings().")
    void p00_stateAndFullChangeNothing() {
        richTown().state("town", 1).state("stroke", 5).does("stroke", 0).state("stroke", 0);
        town("a580p01").does("mid", 5).does("pump", 1).state("pump", 2).does("pump", 1).state("pump", 1);
        fullTown().full("hour").full("pump", 1).full("pump", -1).full("cut", 0).full("leak", 0).full("stroke", 9);
        town("a580p01").does("lots", 20, 1).does("hour").full("lots", 20, 1);
        run().row(0, 1).state("hour").state("pump", -1).state("stroke", 0).state("keep", 0).state("mid", 12);
    }

    @Says(promise = 0, words = "1 NOTHING (a ROW, a TEXT, a kept TOWN that is missing)")
    void p00_nothing() {
        run().finds(1, "at", 0, 0).finds(1, "lay", 5, 0, 0).finds(1, "tear", 0).finds(1, "mean", 0);
        run().finds(1, "copy", 0, 0, 0, 0, 0).finds(1, "put", 0, 0, 0).finds(1, "fault", 3).finds(1, "town", 0);
        run().finds(1, "on", 0).finds(1, "on", 2);
        town("a105p01").finds(1, "leaks", 0).finds(1, "listen", 0).finds(1, "strokes", 0).finds(1, "kinds", 0, 0);
    }

    @Says(promise = 0, words = "2 BEYOND (a place of a ROW, a TEXT that there is not)")
    void p00_beyond() {
        Run x = run().row(0, 1, 2).text(0, "ab");
        x.gives(1, "at", 0, 1).finds(2, "at", 0, 2).finds(2, "at", 0, -1).finds(2, "lay", 0, 2, 0);
        x.gives(1098, "put", 0, 1, 0).finds(2, "put", 0, 2, 0).finds(2, "put", 0, -1, 0);
        x.gives(1, "copy", 0, 0, 0, 0, 2).finds(2, "copy", 0, 1, 0, 0, 2).finds(2, "copy", 0, 0, 0, 1, 2);
    }

    @Says(promise = 0, words = "3 UNLIKE (a PIPE of another KIND; a number that is none)")
    void p00_unlike() {
        Run x = town("a105p01").finds(3, "mark", 0, 1).finds(3, "mark", 0, 5);
        x.row(0, 2).finds(3, "leaks", 0).finds(3, "kinds", 0, 0);
        x.row(0, -1).finds(3, "listen", 0).finds(3, "strokes", 0);
    }

    @Says(promise = 0, words = "4 NOUGHT (shared among none; nothing fits)")
    void p00_nought() {
        town("a105p01").does("row", 0, 0).finds(4, "mean", 0).finds(4, "sure", 2);
    }

    @Says(promise = 0, words = "5 SIZE (fewer than none; too many, not as many as due)")
    void p00_size() {
        Run x = town("a105p01").finds(5, "row", 0, -1).finds(5, "text", 0, -1).does("row", 0, 10);
        x.finds(5, "copy", 0, 0, 0, 0, -1).gives(1, "leaks", 0);
        x.does("row", 0, 11).finds(5, "leaks", 0).finds(5, "strokes", 0);
        x.does("row", 0, 0).finds(5, "listen", 0).finds(5, "kinds", 0, 0);
    }

    @Says(promise = 0, words = "FINDINGS: 1 NOTHING")
    void p00_findingsBeforeAny() {
        run().gives(0, "finding").gives(0, "findings", 1).gives(0, "findings", 5).gives(-1, "findings", 6);
    }

    @Says(promise = 0, words = "Chances, means, numbers of sets are told by upper(), lower(), in lowest terms")
    void p00_lowestTerms() {
        Run x = town("a010p01");
        x.shares(1, 2, "odds", 0, 6).shares(1, 4, "odds", 0, 9).shares(2, 3, "odds", 0, 4).shares(5, 12, "odds", 0, 7);
        town("a110p01p01").shares(9, 1, "mid", 0).shares(8, 1, "mid", 6).shares(49, 6, "mid", 5);
        town("a105p02p02").shares(2, 1, "sets", 2).row(0, 3).shares(4, 1, "leaks", 0);
    }

    @Says(promise = 0, words = "the lower number above 0 (0 by 1)")
    void p00_noughtByOne() {
        town("a000p01").shares(0, 1, "odds", 0, 5).shares(0, 1, "mid", 5).shares(0, 1, "sets", 2).row(0, 1)
            .shares(0, 1, "leaks", 0);
    }

    @Says(promise = 0, words = "Sets (of PIPES, of KINDS, of STROKES 0 .. 9) are told by bits.")
    void p00_setsAreBits() {
        town("a010p09p09p09p09p09p01").gives(32, "hour").does("leak", 5).counts(32, 6).does("cut", 4).counts(16, 5);
        town("a090p08").row(0, 1).gives(31, "kinds", 0, 0).row(0, 0).gives(32, "kinds", 0, 0);
        town("a000p09").row(0, 1).gives(512, "strokes", 0).row(0, 0).gives(511, "strokes", 0);
    }

    @Says(promise = 0, words = "(aside).")
    void p00_whatComesIsAskedAside() {
        Run x = town(ALL_KINDS).does("hour").does("leak", 2);
        x.aside(() -> x.does("wants", 4, 9, 2).does("air", 40).does("says", 0, 40).does("first", 0));
    }

    @Says(promise = 0, words = "(aside, now).")
    void p00_soThatOneSpeaksIsAskedAsideAndNow() {
        Run x = town(ALL_KINDS).does("hour").does("hour");
        x.aside(() -> x.does("hush", 3).does("least", 5).does("hard", 1, 20));
        // now an old one rests; an hour later it wants again
        Run old = town("a609o01").does("hour").does("hour").none("hush", 0).none("least", 0).none("hard", 1, 1);
        old.does("hour").gives(0, "hush", 0).gives(0, "least", 0).gives(0, "hard", 1, 1);
    }

    @Says(promise = 0, words = "(a ROW of 1 to 10 ints: who SAID something in the 1st, 2nd, .. HOUR from now on, "
        + "bits: NOTHING; SIZE;")
    void p00_heardOneToTen() {
        for (String name : new String[] {"leaks", "listen", "strokes", "kinds"}) {
            int[] args = name.equals("kinds") ? new int[] {0, 0} : new int[] {0};
            Run x = town("a000p01").finds(NOTHING, name, args).does("row", 0, 0).finds(SIZE, name, args);
            x.does("row", 0, 1).does(name, args).does("row", 0, 10).does(name, args);
            x.does("row", 0, 11).finds(SIZE, name, args).does("row", 0, 40).finds(SIZE, name, args);
        }
    }

    @Says(promise = 0, words = "who SAID something in the 1st, 2nd, .. HOUR from now on, bits")
    void p00_heardFromNowOn() {
        // behind one hour 3 are left: blown by 0 or 1, for one hour more and not for the next
        Run x = town("a060p03").does("hour").row(0, 1, 0).gives(3, "strokes", 0).row(0, 0, 1).gives(0, "strokes", 0);
        x.row(0, 1, 0, 0, 0, 0, 0, 0, 0, 0, 0).gives(1, "strokes", 0);
        x.row(0, 1, 0, 0, 0, 0, 0, 0, 0, 0, 1).gives(0, "strokes", 0);
    }

    @Says(promise = 0, words = "UNLIKE: a set of others; behind BAD, STATE).")
    void p00_heardOfOthers() {
        for (int set : new int[] {4, 7, 64, -1, LEAST, MOST}) {
            Run x = town("a000p01p01").row(0, 3, 0, set);
            x.finds(UNLIKE, "leaks", 0).finds(UNLIKE, "listen", 0).finds(UNLIKE, "strokes", 0);
            x.finds(UNLIKE, "kinds", 0, 0).bad("kinds", 2, 0);
        }
        run().row(0, 1).state("leaks", 0).state("listen", 0).state("strokes", 0).bad("kinds", 0, 0).bad("leaks", 6);
    }

    @Says(promise = 0, words = "(each PIPE that does not LEAK LEAKS next HOUR by p (0 .. 12) of 12, each by itself).")
    void p00_leaksByChance() {
        town("a030p01p01").shares(1, 1, "odds", 1, 0).shares(3, 4, "odds", 1, 6).shares(0, 1, "odds", 1, 12);
        town("a030p01p01").does("leak", 0).shares(1, 1, "odds", 1, 0).shares(7, 12, "odds", 1, 5)
            .shares(0, 1, "odds", 1, 12);
        Run x = town("a100p01p01").shares(8, 1, "mid", 0).shares(47, 6, "mid", 1).shares(6, 1, "mid", 12);
        x.does("leak", 1).shares(7, 1, "mid", 0).shares(83, 12, "mid", 1).shares(6, 1, "mid", 12);
        x.bad("odds", 0, -1).bad("odds", 0, 13).bad("mid", -1).bad("mid", 13).counts(2, 6);
    }
}
