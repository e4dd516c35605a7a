/** Promises 1 to 10: a new object, rows, texts. */
final class EdgesOfRows extends Edges {
    private static final int[] NO_ROWS = {-1, 6, LEAST, MOST};
    private static final int[] NO_TEXTS = {-1, 4, LEAST, MOST};

    private Run oneToFive() {
        return run().row(0, 1, 2, 3, 4, 5).row(1, 0, 0, 0);
    }

    private void rowIs(Run x, int r, int... values) {
        for (int i = 0; i < values.length; i++) {
            x.tells(values[i], "at", r, i);
        }
        x.finds(BEYOND, "at", r, values.length);
    }

    @Says(promise = 1, words = "No ROWS, TEXTS, PIPES.")
    void p01_nothingIsThere() {
        Run x = run();
        for (int what = 0; what <= 13; what++) {
            x.counts(0, what);
        }
        x.finds(NOTHING, "at", 0, 0).finds(NOTHING, "fault", 0).bad("pipe", 0, 0).state("hour").finds(NOTHING, "on", 0);
    }

    @Says(promise = 2, words = "A ROW is there with n ints 0: n.")
    void p02_rowOfNoughts() {
        Run x = run().gives(3, "row", 0, 3).counts(1, 11);
        rowIs(x, 0, 0, 0, 0);
        x.gives(0, "row", 5, 0).counts(2, 11);
        rowIs(x, 5);
        x.gives(40, "row", 5, 40).tells(0, "at", 5, 39).counts(2, 11);
    }

    @Says(promise = 2, words = "A ROW is there with n ints 0: n.")
    void p02_rowAnewIsOfNoughtsAgain() {
        Run x = run().row(0, 7, 8, 9).gives(2, "row", 0, 2);
        rowIs(x, 0, 0, 0);
        x.gives(3, "row", 0, 3);
        rowIs(x, 0, 0, 0, 0);
        x.row(0, 7, 8, 9).gives(1, "tear", 0).gives(3, "row", 0, 3);
        rowIs(x, 0, 0, 0, 0);
    }

    @Says(promise = 2, words = "BAD: also n above 40;")
    void p02_rowAbove40() {
        Run x = run().gives(40, "row", 0, 40).bad("row", 0, 41).bad("row", 1, 41).bad("row", 0, MOST);
        for (int r : NO_ROWS) {
            x.bad("row", r, 1).bad("row", r, 41).bad("row", r, -1);
        }
        x.counts(1, 11);
    }

    @Says(promise = 2, words = "SIZE: below 0.")
    void p02_rowBelowNone() {
        Run x = run().gives(0, "row", 0, 0).finds(SIZE, "row", 0, -1).finds(SIZE, "row", 5, LEAST).counts(1, 11);
        x.row(1, 7).finds(SIZE, "row", 1, -1);
        rowIs(x, 1, 7);
    }

    @Says(promise = 3, words = "Place i of a ROW is v: what it was, told by asked(): 1.")
    void p03_layTellsWhatItWas() {
        Run x = run().does("row", 0, 40);
        x.tells(0, "lay", 0, 0, 5).tells(5, "lay", 0, 0, -9).tells(-9, "lay", 0, 0, 0).tells(0, "at", 0, 0);
        x.tells(0, "lay", 0, 39, MOST).tells(MOST, "lay", 0, 39, LEAST).tells(LEAST, "at", 0, 39).tells(0, "at", 0, 38);
    }

    @Says(promise = 3, words = "BAD; NOTHING; BEYOND.")
    void p03_layRefused() {
        Run x = run().does("row", 0, 2).finds(BEYOND, "lay", 0, 2, 1).finds(BEYOND, "lay", 0, -1, 1);
        x.finds(BEYOND, "lay", 0, MOST, 1).finds(BEYOND, "lay", 0, LEAST, 1).finds(NOTHING, "lay", 1, 0, 1);
        x.finds(NOTHING, "lay", 1, -1, 1).gives(1, "lay", 0, 1, 1);
        for (int r : NO_ROWS) {
            x.bad("lay", r, 0, 1).bad("lay", r, -1, 1);
        }
        run().does("row", 0, 0).finds(BEYOND, "lay", 0, 0, 1);
    }

    @Says(promise = 4, words = "Place i of a ROW, told by asked(): 1.")
    void p04_atTellsAPlace() {
        Run x = run().row(0, 5, -1, LEAST, MOST);
        rowIs(x, 0, 5, -1, LEAST, MOST);
        rowIs(x, 0, 5, -1, LEAST, MOST);
    }

    @Says(promise = 4, words = "BAD; NOTHING; BEYOND.")
    void p04_atRefused() {
        Run x = run().row(5, 8, 9).gives(1, "at", 5, 1).finds(BEYOND, "at", 5, 2).finds(BEYOND, "at", 5, -1);
        x.finds(BEYOND, "at", 5, MOST).finds(BEYOND, "at", 5, LEAST).finds(NOTHING, "at", 4, 0);
        x.finds(NOTHING, "at", 4, -1);
        for (int r : NO_ROWS) {
            x.bad("at", r, 0).bad("at", r, -1);
        }
        run().does("row", 0, 0).finds(BEYOND, "at", 0, 0);
        run().does("row", 0, 40).gives(1, "at", 0, 39).finds(BEYOND, "at", 0, 40);
    }

    @Says(promise = 5, words = "A ROW is missing: 1.")
    void p05_tornRowIsMissing() {
        Run x = run().row(0, 1).row(1, 2).gives(1, "tear", 0).counts(1, 11).finds(NOTHING, "at", 0, 0);
        rowIs(x, 1, 2);
        // one without places is there, too
        run().does("row", 5, 0).gives(1, "tear", 5).counts(0, 11);
    }

    @Says(promise = 5, words = "BAD; NOTHING.")
    void p05_tearRefused() {
        Run x = run().finds(NOTHING, "tear", 0).row(0, 1).gives(1, "tear", 0).finds(NOTHING, "tear", 0);
        for (int r : NO_ROWS) {
            x.bad("tear", r);
        }
    }

    @Says(promise = 6, words = "n places of a ROW, from one on, come to those of another one (perhaps itself) from "
        + "one on, as if taken ahead: 1.")
    void p06_copyAsIfTakenAhead() {
        Run x = oneToFive().gives(1, "copy", 0, 2, 1, 0, 3);
        rowIs(x, 1, 3, 4, 5);
        rowIs(x, 0, 1, 2, 3, 4, 5);
        x.gives(1, "copy", 0, 0, 0, 1, 4);
        rowIs(x, 0, 1, 1, 2, 3, 4);
        Run down = oneToFive().gives(1, "copy", 0, 1, 0, 0, 4);
        rowIs(down, 0, 2, 3, 4, 5, 5);
        down.gives(1, "copy", 0, 0, 0, 0, 5);
        rowIs(down, 0, 2, 3, 4, 5, 5);
    }

    @Says(promise = 6, words = "n places of a ROW, from one on")
    void p06_copyOfNone() {
        Run x = oneToFive().gives(1, "copy", 0, 0, 1, 0, 0).gives(1, "copy", 0, 5, 1, 3, 0);
        rowIs(x, 1, 0, 0, 0);
        run().does("row", 0, 0).gives(1, "copy", 0, 0, 0, 0, 0).finds(BEYOND, "copy", 0, 0, 0, 0, 1);
        Run all = run().does("row", 0, 40).does("row", 1, 40).does("lay", 0, 39, 3).gives(1, "copy", 0, 0, 1, 0, 40);
        all.tells(3, "at", 1, 39).finds(BEYOND, "copy", 0, 0, 1, 0, 41).finds(BEYOND, "copy", 0, 1, 1, 0, 40);
    }

    @Says(promise = 6, words = "BAD; SIZE: n below 0;")
    void p06_copyBadThenSize() {
        Run x = oneToFive().finds(SIZE, "copy", 0, 0, 1, 0, -1).finds(SIZE, "copy", 0, 0, 1, 0, LEAST);
        x.finds(SIZE, "copy", 0, 9, 1, -9, -1).finds(SIZE, "copy", 2, 0, 1, 0, -1).finds(SIZE, "copy", 0, 0, 2, 0, -1);
        for (int r : NO_ROWS) {
            x.bad("copy", r, 0, 1, 0, -1).bad("copy", 0, 0, r, 0, -1);
        }
        oneToFive().bad("copy", 6, 0, 1, 0, 1).bad("copy", 0, 0, 6, 0, 1).bad("copy", 6, 0, 2, 0, 1);
    }

    @Says(promise = 6, words = "NOTHING: either;")
    void p06_copyNothing() {
        Run x = oneToFive().finds(NOTHING, "copy", 2, 0, 1, 0, 1).finds(NOTHING, "copy", 0, 0, 2, 0, 1);
        x.finds(NOTHING, "copy", 2, 0, 3, 0, 0).finds(NOTHING, "copy", 2, -1, 1, 9, 9);
        x.finds(NOTHING, "copy", 0, 9, 2, 0, 1).counts(2, 11);
    }

    @Says(promise = 6, words = "BEYOND: not so many there.")
    void p06_copyBeyond() {
        int[][] beyond = {
            {5, 0, 1}, {4, 0, 2}, {0, 3, 1}, {0, 2, 2}, {0, 0, 4}, {-1, 0, 1}, {0, -1, 1}, {6, 0, 0}, {0, 4, 0},
            {-1, 0, 0}, {0, -1, 0}, {MOST, 0, 1}, {0, MOST, 1}, {0, 0, MOST}, {MOST, 0, MOST}, {1, 0, MOST},
            {LEAST, 0, 1}, {0, LEAST, 3}, {LEAST, LEAST, MOST}};
        for (int[] a : beyond) {
            oneToFive().finds(BEYOND, "copy", 0, a[0], 1, a[1], a[2]);
        }
        oneToFive().gives(1, "copy", 0, 4, 1, 2, 1).gives(1, "copy", 0, 2, 1, 0, 3);
    }

    @Says(promise = 7, words = "The mean of a ROW's ints, cut, told by asked(): 1.")
    void p07_meanIsCut() {
        run().row(0, 1, 2, 5).tells(2, "mean", 0).row(0, -1, -2, -5).tells(-2, "mean", 0).row(0, -1, 0)
            .tells(0, "mean", 0).row(0, 1, 0).tells(0, "mean", 0).row(0, -7, 0).tells(-3, "mean", 0);
        run().row(5, -4).tells(-4, "mean", 5).does("row", 5, 40).does("lay", 5, 39, 79).tells(1, "mean", 5)
            .does("lay", 5, 39, 80).tells(2, "mean", 5);
    }

    @Says(promise = 7, words = "The mean of a ROW's ints")
    void p07_meanOfGreatInts() {
        run().row(0, MOST, MOST).tells(MOST, "mean", 0).row(0, LEAST, LEAST, LEAST).tells(LEAST, "mean", 0)
            .row(0, MOST, LEAST).tells(0, "mean", 0).row(0, MOST, MOST, MOST - 3).tells(MOST - 1, "mean", 0);
        Run x = run().does("row", 0, 40);
        for (int i = 0; i < 40; i++) {
            x.does("lay", 0, i, LEAST);
        }
        x.tells(LEAST, "mean", 0);
    }

    @Says(promise = 7, words = "BAD; NOTHING; NOUGHT.")
    void p07_meanRefused() {
        Run x = run().does("row", 0, 0).finds(NOUGHT, "mean", 0).finds(NOTHING, "mean", 1).does("row", 0, 1)
            .gives(1, "mean", 0);
        for (int r : NO_ROWS) {
            x.bad("mean", r);
        }
    }

    @Says(promise = 8, words = "A TEXT is there with n blanks: n.")
    void p08_textOfBlanks() {
        Run x = run().gives(3, "text", 0, 3).counts(1, 12).gives(3, "fault", 0);
        for (int i = 0; i < 3; i++) {
            x.gives(1032, "put", 0, i, 97);
        }
        x.gives(60, "text", 0, 60).counts(1, 12).gives(60, "fault", 0).gives(1032, "put", 0, 0, 97);
        x.gives(1032, "put", 0, 59, 97).gives(0, "text", 3, 0).counts(2, 12).gives(0, "fault", 3);
        x.gives(2, "text", 0, 2).gives(60, "text", 0, 60).gives(1032, "put", 0, 59, 97);
    }

    @Says(promise = 8, words = "BAD: also n above 60;")
    void p08_textAbove60() {
        Run x = run().gives(60, "text", 0, 60).bad("text", 0, 61).bad("text", 1, 61).bad("text", 0, MOST);
        for (int t : NO_TEXTS) {
            x.bad("text", t, 1).bad("text", t, 61).bad("text", t, -1);
        }
        x.counts(1, 12);
    }

    @Says(promise = 8, words = "SIZE: below 0.")
    void p08_textBelowNone() {
        Run x = run().gives(0, "text", 0, 0).finds(SIZE, "text", 0, -1).finds(SIZE, "text", 3, LEAST).counts(1, 12);
        x.text(1, "a").finds(SIZE, "text", 1, -1).gives(1097, "put", 1, 0, 0);
    }

    @Says(promise = 9, words = "Byte i of a TEXT is v, cut to a byte: what it was, and 1000 more.")
    void p09_putCutsToAByte() {
        Run x = run().does("text", 0, 2);
        int[] values = {127, 128, 255, 256, 257, -1, -128, -129, 97 + 256, 97 - 256, MOST, LEAST};
        int[] bytes = {127, -128, -1, 0, 1, -1, -128, 127, 97, 97, -1, 0};
        int was = 32;
        for (int k = 0; k < values.length; k++) {
            x.gives(was + 1000, "put", 0, 1, values[k]);
            was = bytes[k];
        }
        x.gives(was + 1000, "put", 0, 1, 32).gives(1032, "put", 0, 0, 0);
        // cut to bytes it is a town like any other
        Run y = run().does("text", 0, 7);
        for (int i = 0; i < 7; i++) {
            y.does("put", 0, i, "a105p01".charAt(i) + 256 * (i - 3));
        }
        y.gives(NONE, "fault", 0).gives(1, "town", 0).counts(10, 1);
    }

    @Says(promise = 9, words = "BAD; NOTHING; BEYOND.")
    void p09_putRefused() {
        Run x = run().does("text", 3, 2).gives(1032, "put", 3, 1, 1).finds(BEYOND, "put", 3, 2, 1);
        x.finds(BEYOND, "put", 3, -1, 1).finds(BEYOND, "put", 3, MOST, 1).finds(BEYOND, "put", 3, LEAST, 1);
        x.finds(NOTHING, "put", 0, 0, 1).finds(NOTHING, "put", 0, -1, 1);
        for (int t : NO_TEXTS) {
            x.bad("put", t, 0, 1).bad("put", t, -1, 1);
        }
        run().does("text", 0, 0).finds(BEYOND, "put", 0, 0, 1);
        run().does("text", 0, 60).gives(1032, "put", 0, 59, 1).finds(BEYOND, "put", 0, 60, 1);
    }

    @Says(promise = 10, words = "A FAULT of a TEXT; NONE: there is none.")
    void p10_faultOrNone() {
        for (int t = 0; t <= 3; t++) {
            run().text(t, "a105p01").gives(NONE, "fault", t).gives(NONE, "fault", t).counts(0, 0);
            run().text(t, "x").gives(0, "fault", t).gives(0, "fault", t);
        }
        // a text of its own, whatever the town is by now
        Run x = town("a105p01").text(1, "a204s02x");
        x.aside(() -> x.gives(7, "fault", 1).gives(NONE, "fault", 0)).counts(10, 1).counts(5, 2).gives(0, "finding");
    }

    @Says(promise = 10, words = "BAD; NOTHING.")
    void p10_faultRefused() {
        Run x = run().does("text", 0, 0).gives(0, "fault", 0);
        for (int t = 1; t <= 3; t++) {
            x.finds(NOTHING, "fault", t);
        }
        for (int t : NO_TEXTS) {
            x.bad("fault", t);
        }
    }
}
