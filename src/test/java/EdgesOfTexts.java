/** Terms, part 1: rows, texts, the language of towns and where it has a FAULT, kinds, what they want and keep. */
final class EdgesOfTexts extends Edges {
    private void fault(int place, String signs) {
        Run x = run().text(3, signs).gives(place, "fault", 3);
        if (place == NONE) {
            x.does("town", 3);
        } else {
            x.state("town", 3);
        }
    }

    private void fine(String signs) {
        fault(NONE, signs);
    }

    /** Each byte at one place of a text: it may be these signs alone (a blank ahead of an item is asked elsewhere). */
    private void only(String allowed, String signs, int place) {
        boolean aheadOfAnItem = Character.isLetter(allowed.charAt(0));
        Run x = run().text(0, signs);
        for (int v = -128; v <= 127; v++) {
            if (x.calls() > 500) {
                x = run().text(0, signs);
            }
            if (v != ' ' || !aheadOfAnItem) {
                x.does("put", 0, place, v).gives(v > 0 && allowed.indexOf(v) >= 0 ? NONE : place, "fault", 0);
            }
        }
    }

    @Says(promise = 0, words = "ROWS 0 .. 5 are rows of 0 to 40 ints")
    void p00_rowsZeroToFive() {
        Run x = run();
        for (int r = 0; r <= 5; r++) {
            x.gives(0, "row", r, 0).gives(40, "row", r, 40).tells(0, "lay", r, 39, MOST).tells(MOST, "at", r, 39);
            x.tells(0, "lay", r, 0, LEAST).tells(LEAST, "at", r, 0);
        }
        x.counts(6, 11).bad("row", -1, 0).bad("row", 6, 0).bad("row", 0, 41).finds(SIZE, "row", 0, -1);
    }

    @Says(promise = 0, words = "TEXTS 0 .. 3 rows of 0 to 60 bytes")
    void p00_textsZeroToThree() {
        Run x = run();
        for (int t = 0; t <= 3; t++) {
            x.gives(0, "text", t, 0).gives(60, "text", t, 60).gives(1032, "put", t, 59, 127);
            x.gives(1127, "put", t, 59, -128).gives(872, "put", t, 59, 0);
        }
        x.counts(4, 12).bad("text", -1, 0).bad("text", 4, 0).bad("text", 0, 61).finds(SIZE, "text", 0, -1);
    }

    @Says(promise = 0, words = "or missing (at first).")
    void p00_missingAtFirst() {
        Run x = run().counts(0, 11).counts(0, 12);
        for (int r = 0; r <= 5; r++) {
            x.finds(NOTHING, "tear", r);
        }
        for (int t = 0; t <= 3; t++) {
            x.finds(NOTHING, "fault", t);
        }
    }

    @Says(promise = 0, words = "A TOWN (without PIPES at first) is a TEXT:")
    void p00_withoutPipesAtFirst() {
        run().counts(0, 0).bad("pipe", 0, 0).bad("cut", 0).state("hour").text(2, "a105p01").counts(0, 0)
            .gives(1, "town", 2).counts(1, 0);
    }

    @Says(promise = 0, words = "blanks (32) ahead, between, behind as many as wanted")
    void p00_blanksAsManyAsWanted() {
        String fiftyThree = " ".repeat(53);
        fine("a105p01");
        fine(fiftyThree + "a105p01");
        fine("a105" + fiftyThree + "p01");
        fine("a105p01" + fiftyThree);
        fine("  a105  p01   s11 ");
        fine("a105p01" + " ".repeat(25) + "s11" + " ".repeat(25));
        for (char white : new char[] {9, 10, 13, 0, 160, 31, 33}) {
            fault(0, white + "a105p01");
            fault(4, "a105" + white + "p01");
            fault(7, "a105p01" + white);
        }
    }

    @Says(promise = 0, words = "none within items.")
    void p00_noBlanksWithinItems() {
        fault(1, "a 105p01");
        fault(2, "a1 05p01");
        fault(3, "a10 5p01");
        fault(5, "a105p 01");
        fault(6, "a105p0 1");
        fault(9, "a105p01 s 11");
        fault(10, "a105p01 s1 1");
    }

    @Says(promise = 0, words = "First a (97), the AIR in the bellows (two figures, 00 .. 60), the STROKE (one "
        + "figure, 0 .. 9).")
    void p00_bellows() {
        only("a", "a105p01", 0);
        only("0123456789", "a105p01", 2);
        only("0123456789", "a105p01", 3);
        only("012345", "a155p01", 1);
        town("a000p01").counts(0, 1).counts(0, 2);
        town("a010p01").counts(1, 1);
        town("a609p01").counts(60, 1).counts(9, 2);
        town("a598p01").counts(59, 1).counts(8, 2);
        fault(1, "a619p01");
    }

    @Says(promise = 0, words = "Then PIPES (1 to 6; 0, 1, .. as they come)")
    void p00_oneToSixPipes() {
        fault(4, "a105");
        town("a105p01").counts(1, 0).fact(1, 0, 2).bad("pipe", 1, 0);
        Run x = town("a105p01p02p03p04p05p06").counts(6, 0).bad("pipe", 6, 0);
        for (int i = 0; i < 6; i++) {
            x.fact(i + 1, i, 2);
        }
        fault(22, "a105p01p02p03p04p05p06p07");
    }

    @Says(promise = 0, words = "a letter, from where it branches (one figure: 0 the bellows, 1 PIPE 0, 2 PIPE 1, "
        + "..: a PIPE told ahead of it)")
    void p00_branchesFromOneAhead() {
        only("psbtol", "a105p01", 4);
        only("0", "a105p01", 5);
        only("01", "a105p01p01", 8);
        only("012345", "a105p01p01p01p01p01p01", 20);
        town("a105p01p01").fact(NONE, 0, 1).fact(NONE, 1, 1);
        Run x = town("a105p01p11p21p31p41p51");
        for (int i = 1; i < 6; i++) {
            x.fact(i - 1, i, 1);
        }
        town("a105p01p11p11p11p11p11").fact(0, 5, 1);
    }

    @Says(promise = 0, words = "its NEED (1 .. 9, one figure).")
    void p00_need() {
        only("123456789", "a105p01", 6);
        town("a105p01").fact(1, 0, 2);
        town("a105p09").fact(9, 0, 2);
        fault(6, "a105p00");
        fault(7, "a105p010");
    }

    @Says(promise = 0, words = "A FAULT is the first place at which it can't go on so (a letter, a figure that is "
        + "none such")
    void p00_faultAtALetterOrFigure() {
        fault(0, "x");
        fault(2, "  A105p01");
        fault(4, "a105xx");
        fault(4, "a105a105");
        fault(4, "a1055p01");
        fault(8, "a105 p0101");
        fault(8, "a105p01 P01");
        fault(5, "a105pp1");
        fault(6, "a105p0p");
        // the first of several
        fault(1, "axxxxxx");
        fault(5, "a105p99");
        fault(8, "a105p01s20");
    }

    @Says(promise = 0, words = "a seventh PIPE: its place;")
    void p00_faultAtASeventhPipe() {
        fault(22, "a105p01p01p01p01p01p01p01");
        fault(25, "a105p01p01p01p01p01p01   p");
        fault(59, "a105p01p01p01p01p01p01" + " ".repeat(37) + "p");
        fine("a105p01p01p01p01p01p01" + " ".repeat(38));
    }

    @Says(promise = 0, words = "two figures above 60: the place of the first of both;")
    void p00_faultAtTwoFiguresAbove60() {
        fine("a600p01");
        fault(1, "a610p01");
        fault(1, "a699p01");
        fault(1, "a700p01");
        fault(1, "a999p01");
        fault(4, "   a61");
        fault(1, "a61x");
        // one figure alone is not yet two above 60
        fault(2, "a9xp01");
        fault(2, "a9");
    }

    @Says(promise = 0, words = "the TEXT's size, if its end comes too early")
    void p00_faultAtAnEndTooEarly() {
        String whole = "a105p01";
        for (int n = 0; n < whole.length(); n++) {
            fault(n, whole.substring(0, n));
        }
        fault(8, "a105p01s");
        fault(9, "a105p01s1");
        fault(9, "a105     ");
        fault(60, " ".repeat(58) + "a1");
        fault(60, " ".repeat(51) + "a105p01s0");
    }

    @Says(promise = 0, words = "or there are blanks alone).")
    void p00_faultOfBlanksAlone() {
        fault(0, "");
        fault(1, " ");
        fault(60, " ".repeat(60));
    }

    @Says(promise = 0, words = "KINDS of PIPES and letters: 0 PIPE (p, 112), 1 SAVER (s, 115; a PIPE), 2 BABE (b, "
        + "98; a PIPE), 3 SIGH (t, 116; a PIPE), 4 OLD (o, 111; a SAVER), 5 LAUGH (l, 108; a SIGH).")
    void p00_kindsAndLetters() {
        int[] letters = {112, 115, 98, 116, 111, 108};
        for (int kind = 0; kind < 6; kind++) {
            town("a105p01").does("put", 0, 4, letters[kind]).gives(1, "town", 0).fact(kind, 0, 0);
        }
        Run x = town(ALL_KINDS).counts(2, 9).counts(2, 10);
        x.gives(20, "mark", 4, 1).gives(2, "mark", 4, 4).finds(UNLIKE, "mark", 1, 4);
        x.gives(3, "mark", 5, 3).gives(6, "mark", 5, 5).finds(UNLIKE, "mark", 3, 5);
    }

    @Says(promise = 0, words = "A PIPE WANTS as much AIR in an HOUR as its NEED is; a SIGH 1 more; a LAUGH twice as "
        + "much as a SIGH of its NEED;")
    void p00_whatKindsWant() {
        Run x = town(ALL_KINDS);
        int[] ofOne = {1, 1, 1, 2, 1, 4};
        int[] ofNine = {9, 9, 9, 10, 9, 20};
        for (int kind = 0; kind < 6; kind++) {
            x.gives(ofOne[kind], "wants", kind, 1, 0).gives(ofNine[kind], "wants", kind, 9, 0);
        }
    }

    @Says(promise = 0, words = "an OLD one as a SAVER, but none in HOURS by 3 that leave 2.")
    void p00_oldOnesRest() {
        Run x = town(ALL_KINDS);
        for (int number = 0; number <= 99; number++) {
            x.gives(number % 3 == 2 ? 0 : 7, "wants", 4, 7, number).gives(7, "wants", 1, 7, number);
        }
    }

    @Says(promise = 0, words = "A SAVER (OLD, too) KEEPS 1, all others 0.")
    void p00_whatKindsKeep() {
        int[] keeps = {0, 1, 0, 0, 1, 0};
        int[] wants = {1, 1, 1, 2, 1, 4};
        for (int kind = 0; kind < 6; kind++) {
            Run x = town("a300" + "psbtol".charAt(kind) + "01").gives(1, "hour");
            x.fact(keeps[kind], 0, 4).counts(30 - wants[kind] - keeps[kind], 1);
        }
    }
}
