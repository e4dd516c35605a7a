import java.math.BigInteger;

/** Terms, parts 2 and 3: what an HOUR does, what DEEDS are, how LOTS come. */
final class EdgesOfHours extends Edges {
    @Says(promise = 0, words = "HOUR 0 is next at first; nothing is CUT, LEAKS, nothing SAVED, nobody SAID anything.")
    void p00_atFirst() {
        for (Run x : new Run[] {run(), town(ALL_KINDS)}) {
            x.counts(0, 3).counts(0, 4).counts(0, 5).counts(0, 6).counts(0, 7).counts(0, 8);
        }
        Run x = town(ALL_KINDS);
        for (int i = 0; i < 6; i++) {
            x.fact(0, i, 4).fact(0, i, 5).fact(0, i, 6).fact(0, i, 7);
        }
    }

    @Says(promise = 0, words = "A PIPE is CUT OFF, if it, or one by which it branches from the bellows, is CUT.")
    void p00_cutOff() {
        for (int cut = 0; cut < 6; cut++) {
            Run x = town("a609p01p11p21p31p41p51").does("cut", cut).counts(1 << cut, 5);
            for (int i = 0; i < 6; i++) {
                x.fact(i >= cut ? 1 : 0, i, 6);
            }
            x.gives((1 << cut) - 1, "hour");
        }
        // two branches: what hangs on the one is not cut off by the other
        town("a609p01p01p11p21").does("cut", 0).fact(1, 0, 6).fact(0, 1, 6).fact(1, 2, 6).fact(0, 3, 6)
            .gives(10, "hour");
        // joined again behind it, but still cut ahead of it
        town("a609p01p11p21").does("cut", 0).does("cut", 2).does("cut", 2).fact(1, 2, 6).gives(0, "hour");
    }

    @Says(promise = 0, words = "An HOUR: the AIR is more by the STROKE (60 at most).")
    void p00_blown() {
        int[][] airs = {{0, 0, 0}, {0, 9, 9}, {51, 8, 59}, {51, 9, 60}, {52, 9, 60}, {60, 9, 60}, {60, 0, 60}};
        for (int[] a : airs) {
            town(String.format("a%02d%dp01", a[0], a[1])).does("cut", 0).does("hour").counts(a[2], 1);
        }
        // 60 at most ahead of what is taken
        town("a609p01").does("hour").counts(59, 1);
    }

    @Says(promise = 0, words = "Then PIPES 0, 1, .. one behind the other, each that is not CUT OFF:")
    void p00_oneBehindTheOther() {
        town("a050p03p03").gives(1, "hour").counts(2, 1);
        town("a050p03p02").gives(3, "hour").counts(0, 1);
        town("a050p09p03p03").gives(2, "hour").counts(2, 1);
        town("a050p03p03").does("cut", 0).gives(2, "hour").counts(2, 1);
        town("a059p01").does("cut", 0).does("leak", 0).gives(0, "hour").counts(14, 1);
    }

    @Says(promise = 0, words = "if it LEAKS, the AIR is 1 less (0 at least).")
    void p00_leakingAir() {
        town("a000p01").does("leak", 0).gives(0, "hour").counts(0, 1);
        town("a010p01").does("leak", 0).gives(0, "hour").counts(0, 1);
        town("a020p01").does("leak", 0).gives(1, "hour").counts(0, 1);
        town("a080p01p01p01").does("leak", 0).does("leak", 2).gives(7, "hour").counts(3, 1);
        // the leak of the second comes behind what the first one takes
        town("a020p02p01").does("leak", 1).gives(1, "hour").counts(0, 1);
    }

    @Says(promise = 0, words = "If it WANTS none, nothing more.")
    void p00_nothingMore() {
        Run x = town("a300o01").does("hour").does("hour").counts(26, 1).counts(2, 7);
        x.gives(0, "hour").counts(26, 1).counts(2, 7).counts(2, 8);
        Run y = town("a300o01").does("hour").does("hour").does("leak", 0);
        y.gives(0, "hour").counts(25, 1).counts(2, 7).counts(2, 8);
    }

    @Says(promise = 0, words = "If there is as much AIR as it WANTS, it takes that and SAYS something (once more);")
    void p00_asMuchAirAsItWants() {
        String[] just = {"a030p03", "a030s03", "a030b03", "a040t03", "a030o03", "a080l03"};
        String[] less = {"a020p03", "a020s03", "a020b03", "a030t03", "a020o03", "a070l03"};
        for (int kind = 0; kind < 6; kind++) {
            town(just[kind]).gives(1, "hour").fact(1, 0, 5).counts(0, 1);
            town(less[kind]).gives(0, "hour").fact(0, 0, 5);
        }
        town("a609p01").times(40, "hour").fact(40, 0, 5).counts(40, 8);
    }

    @Says(promise = 0, words = "then, if there is as much as it KEEPS, it takes that and SAVES it")
    void p00_savesWhatItKeeps() {
        for (char kind : new char[] {'s', 'o'}) {
            town("a030" + kind + "03").gives(1, "hour").fact(0, 0, 4).counts(0, 1);
            town("a040" + kind + "03").gives(1, "hour").fact(1, 0, 4).counts(0, 1);
            town("a050" + kind + "03").gives(1, "hour").fact(1, 0, 4).counts(1, 1);
            town("a020" + kind + "03").gives(0, "hour").fact(0, 0, 4).counts(2, 1);
        }
    }

    @Says(promise = 0, words = "(20 at most in all, what is more is lost).")
    void p00_savesTwentyAtMost() {
        Run x = town("a402s01").times(19, "hour").fact(19, 0, 4).counts(40, 1);
        x.does("hour").fact(20, 0, 4).counts(40, 1);
        x.does("hour").fact(20, 0, 4).counts(40, 1).does("stroke", 0).does("hour").fact(20, 0, 4).counts(38, 1);
    }

    /** A SAVER that SAVED 3, and no AIR. */
    private Run savedThree(String need) {
        Run x = town("a609s0" + need).does("hour").does("hour").does("hour").fact(3, 0, 4).does("stroke", 0);
        for (int air = (int) x.call("count", 1); air > 0; air -= 9) {
            x.does("pump", -Math.min(9, air));
        }
        return x.counts(0, 1);
    }

    @Says(promise = 0, words = "If there is less, but with what it SAVED as much, it takes all the AIR, the rest of "
        + "what it SAVED, and SAYS something.")
    void p00_withWhatItSaved() {
        savedThree("3").gives(1, "hour").fact(0, 0, 4).counts(0, 1).fact(4, 0, 5);
        savedThree("2").gives(1, "hour").fact(1, 0, 4).counts(0, 1).gives(0, "hour").fact(1, 0, 4);
        savedThree("5").does("pump", 2).gives(1, "hour").fact(0, 0, 4).counts(0, 1).fact(4, 0, 5);
        savedThree("5").does("pump", 4).gives(1, "hour").fact(2, 0, 4).counts(0, 1);
        // as much air as it wants: what it saved is left alone
        savedThree("5").does("pump", 5).gives(1, "hour").fact(3, 0, 4).counts(0, 1);
        // 1 less than with what it saved as much
        savedThree("5").does("pump", 1).gives(0, "hour").fact(3, 0, 4).counts(1, 1).fact(3, 0, 5);
    }

    @Says(promise = 0, words = "If there is less even so: a BABE takes all the AIR and says nothing; all others "
        + "take nothing.")
    void p00_lessEvenSo() {
        town("a080b09p01").gives(0, "hour").counts(0, 1).fact(0, 0, 5);
        town("a080p09p01").gives(2, "hour").counts(7, 1);
        town("a080s09p01").gives(2, "hour").counts(7, 1);
        town("a080t08p01").gives(2, "hour").counts(7, 1);
        town("a080o09p01").gives(2, "hour").counts(7, 1);
        town("a080l04p01").gives(2, "hour").counts(7, 1);
        town("a000b09").gives(0, "hour").counts(0, 1);
        savedThree("9").does("pump", 5).gives(0, "hour").fact(3, 0, 4).counts(5, 1);
    }

    @Says(promise = 0, words = "The next HOUR's number is 1 more.")
    void p00_nextHour() {
        Run x = town("a000p01");
        for (int k = 0; k < 40; k++) {
            x.counts(k, 3).does("hour");
        }
        x.counts(40, 3).full("hour").counts(40, 3);
        town("a000p01").does("pump", 1).does("cut", 0).does("leak", 0).does("stroke", 1).counts(0, 3);
    }

    @Says(promise = 0, words = "What is done: an HOUR, AIR pumped in, let out, a PIPE CUT, or joined again, one "
        + "LEAKS, or is mended, another STROKE.")
    void p00_whatIsADeed() {
        Run x = town("a100p01").counts(0, 4).does("hour").counts(1, 4).does("pump", 1).counts(2, 4);
        x.does("pump", -1).counts(3, 4).does("cut", 0).counts(4, 4).does("cut", 0).counts(5, 4);
        x.does("leak", 0).counts(6, 4).does("leak", 0).counts(7, 4).does("stroke", 1).counts(8, 4);
        // what is no DEED
        x.does("keep", 0).does("on", 0).does("air", 9).does("least", 0).does("duel", 2).does("mid", 1).counts(8, 4);
    }

    @Says(promise = 0, words = "These are DEEDS 0, 1, .. (40 at most).")
    void p00_fortyDeeds() {
        String[] names = {"hour", "pump", "pump", "cut", "leak", "stroke"};
        int[][] args = {{}, {1}, {-1}, {0}, {0}, {1}};
        for (int k = 0; k < names.length; k++) {
            Run x = town("a100p01").times(39, "cut", 0).does(names[k], args[k]).counts(40, 4);
            x.full("leak", 0).gives(1, "undo", 39).counts(39, 4).does("leak", 0).counts(40, 4).full("hour");
        }
    }

    private static int next(int number) {
        BigInteger product = BigInteger.valueOf(number).multiply(BigInteger.valueOf(48271));
        return product.mod(BigInteger.valueOf(2147483647)).intValueExact();
    }

    @Says(promise = 0, words = "LOTS: a number comes from the one ahead by 48271 times it modulo 2147483647")
    void p00_lotsFromTheOneAhead() {
        // 48271 times 44488 is just below 2147483647, 48271 times 44489 just above it
        for (int seed : new int[] {1, 44488, 44489, 65536, 1234567890, 2147483646}) {
            Run whole = town("a305p01s12b01t22o03l11").does("lots", 20, seed);
            Run parts = town("a305p01s12b01t22o03l11");
            int number = seed;
            for (int k = 0; k < 20; k++) {
                parts.does("lots", 1, number);
                number = next(number);
            }
            due("the same, one by one from seed " + seed, whole.call("digest"), parts.call("digest"));
        }
    }

    @Says(promise = 0, words = "the first from a seed (1 .. 2147483646).")
    void p00_lotsFromASeed() {
        // from 1 there comes 48271 (an HOUR), from 2147483646 there comes 2147435376 (STROKE 7)
        town("a100p01").gives(9, "lots", 1, 1).counts(1, 3);
        town("a100p01").gives(10, "lots", 1, 2147483646).counts(7, 2).counts(0, 3);
        town("a100p01").bad("lots", 1, 0).bad("lots", 1, -1).bad("lots", 1, 2147483647).bad("lots", 1, LEAST);
    }
}
