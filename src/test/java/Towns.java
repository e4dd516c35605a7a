/** Makes objects with texts, rows and towns, so that tests can tell them in one line. */
final class Towns {
    static final int NOTHING = 1, BEYOND = 2, UNLIKE = 3, NOUGHT = 4, SIZE = 5;

    private Towns() {
    }

    static BlowerBreath of(String text) {
        BlowerBreath x = new BlowerBreath();
        write(x, 0, text);
        if (x.town(0) < 1) {
            throw new IllegalStateException("no town: " + text);
        }
        return x;
    }

    static void write(BlowerBreath x, int t, String text) {
        x.text(t, text.length());
        for (int i = 0; i < text.length(); i++) {
            x.put(t, i, text.charAt(i));
        }
    }

    static void fill(BlowerBreath x, int r, int... values) {
        x.row(r, values.length);
        for (int i = 0; i < values.length; i++) {
            x.lay(r, i, values[i]);
        }
    }

    static int asked(BlowerBreath x, int answer) {
        return answer == 1 ? x.asked() : 1000000 + answer;
    }

    static int fact(BlowerBreath x, int i, int what) {
        return asked(x, x.pipe(i, what));
    }

    static String share(BlowerBreath x) {
        return x.upper() + "/" + x.lower();
    }
}
