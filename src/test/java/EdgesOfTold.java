import java.util.ArrayList;
import java.util.List;

/** Promises 39 to 45: what is told of what was asked, counted, found. */
final class EdgesOfTold extends Edges {
    @Says(promise = 39, words = "What the latest lay(), at(), mean(), pipe(), air(), hush(), leaks(), listen(), "
        + "sets(), sure(), duel()")
    void p39_theLatest() {
        Run x = town(ALL_KINDS).row(0, 15).tells(15, "lay", 0, 0, 15).tells(15, "at", 0, 0).tells(-9, "pipe", 0, 1);
        x.tells(15, "mean", 0).givesAndTells(0, 31, "air", 1).givesAndTells(1, 1, "hush", 5).tells(1, "leaks", 0);
        x.givesAndTells(1, 38, "listen", 0).tells(5, "sets", 7).givesAndTells(0, 54, "sure", 3).tells(1, "duel", 0);
    }

    @Says(promise = 39, words = "What the latest lay(), at(), mean(), pipe(), air(), hush(), leaks(), listen(), "
        + "sets(), sure(), duel()")
    void p39_nothingElseTells() {
        Run x = town(ALL_KINDS).row(0, 15).does("row", 1, 3).does("sure", 3).gives(54, "asked");
        x.does("copy", 0, 0, 1, 0, 1).does("tear", 1).does("text", 1, 3).does("put", 1, 0, 1).does("fault", 1);
        x.does("mark", 1, 1).does("hour").does("pump", 1).does("cut", 0).does("leak", 0).does("stroke", 1);
        x.does("undo", 2).does("keep", 0).does("on", 0).does("wants", 0, 9, 9).does("says", 0, 9).does("first", 0);
        x.does("least", 1).does("hard", 0, 1).does("strokes", 0).does("kinds", 0, 0).does("odds", 0, 1).does("mid", 1);
        x.does("lots", 2, 1).does("count", 1).does("finding").does("findings", 1).does("digest").does("upper");
        x.does("lower").does("town", 0).gives(54, "asked").gives(54, "asked");
    }

    @Says(promise = 39, words = "that was not refused (nor NONE) told; 0 before.")
    void p39_notRefusedNorNone() {
        run().gives(0, "asked");
        run().bad("at", 6, 0).finds(NOTHING, "at", 0, 0).state("air", 0).gives(0, "asked");
        Run x = town("a030p02p13p01").row(0, 0).does("pipe", 1, 2).gives(3, "asked");
        x.bad("lay", 6, 0, 0).finds(BEYOND, "lay", 0, 1, 0).finds(NOTHING, "mean", 1).bad("pipe", 0, 8);
        x.bad("air", 41).bad("hush", 3).none("hush", 1).finds(NOTHING, "leaks", 1).none("listen", 0);
        x.bad("sets", 100).finds(NOUGHT, "sure", 99).bad("duel", 3).gives(3, "asked");
        // leaks() and sets() that find no set answer 1, and tell NONE
        x.tells(NONE, "leaks", 0).does("pipe", 1, 2).tells(NONE, "sets", 99);
    }

    @Says(promise = 40, words = "The upper number that was told last; 0 before.")
    void p40_upper() {
        run().gives(0, "upper").state("mid", 1).gives(0, "upper");
        Run x = town("a030p01p01").shares(4, 9, "mid", 4).shares(8, 9, "odds", 1, 4).shares(2, 1, "sets", 1);
        // what tells no such number, or is refused, leaves it
        x.row(0, 3).does("listen", 0).does("sure", 0).does("duel", 1).does("mean", 0).does("hour").does("town", 0);
        x.bad("mid", 13).bad("odds", 2, 0).bad("sets", 100).finds(NOTHING, "leaks", 1).gives(2, "upper");
        x.shares(3, 1, "leaks", 0);
    }

    @Says(promise = 41, words = "Its lower number; 1 before.")
    void p41_lower() {
        run().gives(1, "lower").state("mid", 1).gives(1, "lower");
        Run x = town("a030p01p01").shares(4, 9, "mid", 4).row(0, 3).does("listen", 0).does("sure", 0).does("duel", 1);
        x.does("hour").does("town", 0).bad("mid", 13).bad("odds", 0, 13).gives(9, "lower").shares(3, 1, "leaks", 0);
        town("a060p01p01p01p01p01p01").shares(1, 2985984, "odds", 5, 11).shares(0, 1, "sets", 99);
    }

    @Says(promise = 42, words = "0 PIPES, 1 the AIR, 2 the STROKE, 3 the number of the next HOUR, 4 DEEDS, 5 those "
        + "that are CUT (bits), 6 that LEAK (bits), 7 all that was SAVED, 8 how often all SAID something, 9 SAVERS "
        + "(OLD ones, too), 10 SIGHS (LAUGHS, too), 11 ROWS, 12 TEXTS that are there, 13 kept TOWNS.")
    void p42_counts() {
        Run x = town("a309s01p11o01t01l01b01").does("row", 1, 2).does("row", 4, 0).does("text", 2, 0);
        x.does("text", 3, 1).does("hour").does("hour").does("cut", 1).does("cut", 3).does("leak", 0).does("leak", 4);
        x.does("stroke", 8).does("pump", -3).does("keep", 1).does("keep", 2);
        // an hour: 1 and 1, 1, 1 and 1, 2, 4, 1 go of 9 more
        int[] due = {6, 30 + 9 - 12 + 9 - 12 - 3, 8, 2, 8, 10, 17, 4, 12, 2, 2, 2, 3, 2};
        for (int what = 0; what < due.length; what++) {
            x.counts(due[what], what);
        }
        x.does("tear", 4).counts(1, 11).does("undo", 0).counts(2, 13).counts(0, 7).counts(0, 8).counts(9, 2);
    }

    @Says(promise = 42, words = "5 those that are CUT (bits), 6 that LEAK (bits), 7 all that was SAVED, 8 how often "
        + "all SAID something")
    void p42_allOfThem() {
        // those that are cut themselves, not those that are cut off by them
        town("a609p01p11p21").does("cut", 0).counts(1, 5).fact(1, 2, 6);
        town("a609s01s01").times(40, "hour").counts(40, 7).counts(80, 8).fact(20, 0, 4).fact(40, 1, 5);
    }

    @Says(promise = 42, words = "BAD.")
    void p42_countRefused() {
        run().gives(0, "count", 13).bad("count", 14).bad("count", -1).bad("count", MOST).bad("count", LEAST);
        town("a105p01").gives(1, "count", 0).bad("count", 14).bad("count", -1);
    }

    @Says(promise = 43, words = "The latest FINDING (0 before any).")
    void p43_theLatestFinding() {
        Run x = run().gives(0, "finding").bad("tear", 6).state("hour").gives(0, "finding").finds(NOTHING, "tear", 0);
        x.town("a105p01").gives(1, "finding").does("row", 0, 0).finds(BEYOND, "at", 0, 0).gives(2, "finding");
        x.finds(UNLIKE, "mark", 0, 1).finds(NOUGHT, "mean", 0).finds(SIZE, "row", 0, -1).bad("tear", 6);
        x.gives(5, "finding").does("hour").does("town", 0).state("stroke", 5).gives(5, "finding");
        x.finds(NOTHING, "tear", 5).gives(1, "finding");
    }

    @Says(promise = 44, words = "How often a FINDING (1 .. 5) was answered.")
    void p44_howOften() {
        Run x = town("a105p01").does("row", 0, 0).row(1, 2);
        x.finds(NOTHING, "tear", 5).finds(NOTHING, "on", 0).finds(NOTHING, "fault", 3).finds(BEYOND, "at", 0, 0);
        x.finds(UNLIKE, "mark", 0, 1).finds(UNLIKE, "leaks", 1).finds(NOUGHT, "mean", 0).finds(SIZE, "leaks", 0);
        x.finds(SIZE, "text", 0, -1).finds(SIZE, "copy", 0, 0, 0, 0, -1).finds(SIZE, "row", 0, -1).does("town", 0);
        int[] due = {3, 1, 2, 1, 4};
        for (int f = 1; f <= 5; f++) {
            x.gives(due[f - 1], "findings", f);
        }
    }

    @Says(promise = 44, words = "BAD.")
    void p44_findingsRefused() {
        run().gives(0, "findings", 1).gives(0, "findings", 5).bad("findings", 0).bad("findings", 6).bad("findings", -1)
            .bad("findings", MOST).bad("findings", LEAST);
        run().finds(NOTHING, "on", 0).bad("findings", 0).bad("findings", 6).gives(1, "finding");
    }

    private static List<Integer> values(int... some) {
        List<Integer> all = new ArrayList<>();
        for (int v : some) {
            all.add(v);
        }
        return all;
    }

    @SafeVarargs
    private static long digestOf(List<Integer>... parts) {
        long h = 17;
        for (List<Integer> part : parts) {
            for (int v : part) {
                h = 31 * h + v;
            }
        }
        return h;
    }

    @Says(promise = 45, words = "h = 17; then h = 31 h + v for each v: count() 0 to 13;")
    void p45_digestOfANewObject() {
        List<Integer> counts = values(0, 0, 0, 0, 0, 0, 0, 0, 0, 0, 0, 0, 0, 0);
        List<Integer> missing = values(-1, -1, -1, -1, -1, -1, -1, -1, -1, -1, -1, -1, -1);
        run().gives(digestOf(counts, missing), "digest").gives(0, "asked");
    }

    @Says(promise = 45, words = "of each PIPE pipe() 0 to 7; of each kept TOWN how many DEEDS (-1: missing);")
    void p45_digestOfPipesAndKeptTowns() {
        Run x = town("a105o03l12").does("keep", 2).does("hour").does("leak", 1).does("cut", 0).does("keep", 0);
        x.does("pipe", 0, 2);
        // 10 + 5 - 3 - 1 - 6 of air
        List<Integer> counts = values(2, 5, 5, 1, 3, 1, 2, 1, 2, 1, 1, 0, 1, 2);
        List<Integer> pipes = values(4, -9, 3, 3, 1, 1, 1, 0, 5, 0, 2, 6, 0, 1, 1, 1);
        List<Integer> kept = values(3, -1, 0);
        List<Integer> rows = values(-1, -1, -1, -1, -1, -1);
        List<Integer> texts = values(10, 'a', '1', '0', '5', 'o', '0', '3', 'l', '1', '2', -1, -1, -1);
        x.gives(digestOf(counts, pipes, kept, rows, texts), "digest").gives(3, "asked");
        x.gives(digestOf(counts, pipes, kept, rows, texts), "digest");
    }

    @Says(promise = 45, words = "of each ROW its size (-1: missing) and places, of each TEXT likewise.")
    void p45_digestOfRowsAndTexts() {
        Run x = run().row(1, -7, MOST, LEAST).does("row", 5, 0).row(0, 1, 2, 3).does("tear", 0).row(2, 4, 5);
        x.does("row", 2, 1).does("text", 3, 2).does("put", 3, 1, -3).does("text", 0, 0).text(1, "abc");
        x.does("text", 1, 1);
        List<Integer> counts = values(0, 0, 0, 0, 0, 0, 0, 0, 0, 0, 0, 3, 3, 0);
        List<Integer> kept = values(-1, -1, -1);
        List<Integer> rows = values(-1, 3, -7, MOST, LEAST, 1, 0, -1, -1, 0);
        List<Integer> texts = values(0, 1, 32, -1, 2, 32, -3);
        x.gives(digestOf(counts, kept, rows, texts), "digest");
    }

    @Says(promise = 45, words = "h = 31 h + v for each v")
    void p45_digestOfAllThatThereCanBe() {
        // long enough to wrap around a long many times
        Run x = run();
        for (int r = 0; r < 6; r++) {
            x.does("row", r, 40).does("lay", r, 0, LEAST).does("lay", r, 39, MOST);
        }
        for (int t = 0; t < 4; t++) {
            x.does("text", t, 60).does("put", t, 59, 128);
        }
        List<Integer> all = values(0, 0, 0, 0, 0, 0, 0, 0, 0, 0, 0, 6, 4, 0, -1, -1, -1);
        for (int r = 0; r < 6; r++) {
            all.add(40);
            for (int i = 0; i < 40; i++) {
                all.add(i == 0 ? LEAST : i == 39 ? MOST : 0);
            }
        }
        for (int t = 0; t < 4; t++) {
            all.add(60);
            for (int i = 0; i < 60; i++) {
                all.add(i == 59 ? -128 : 32);
            }
        }
        x.gives(digestOf(all), "digest");
    }
}
