import java.math.BigInteger;
import java.util.ArrayList;
import java.util.Collections;
import java.util.List;
import java.util.function.Consumer;
import java.util.regex.Matcher;
import java.util.regex.Pattern;

/**
 * The document told once more, slowly and in another way (a class for each kind, whole towns copied for each deed,
 * turns tried out one by one), so that long runs of calls can be held against it. It has the face's methods by name.
 */
public final class Model {
    static class Pipe implements Cloneable {
        int from;
        int need;
        int saved;
        int said;
        boolean cut;
        boolean leaks;

        int letterAndKind() {
            return 0;
        }

        int wants(int aNeed, int hour) {
            return aNeed;
        }

        int keeps() {
            return 0;
        }

        Pipe twin() {
            try {
                return (Pipe) clone();
            } catch (CloneNotSupportedException e) {
                throw new IllegalStateException(e);
            }
        }
    }

    static class Saver extends Pipe {
        @Override
        int letterAndKind() {
            return 1;
        }

        @Override
        int keeps() {
            return 1;
        }
    }

    static class Babe extends Pipe {
        @Override
        int letterAndKind() {
            return 2;
        }
    }

    static class Sigh extends Pipe {
        @Override
        int letterAndKind() {
            return 3;
        }

        @Override
        int wants(int aNeed, int hour) {
            return aNeed + 1;
        }
    }

    static class Old extends Saver {
        @Override
        int letterAndKind() {
            return 4;
        }

        @Override
        int wants(int aNeed, int hour) {
            return hour % 3 == 2 ? 0 : super.wants(aNeed, hour);
        }
    }

    static class Laugh extends Sigh {
        @Override
        int letterAndKind() {
            return 5;
        }

        @Override
        int wants(int aNeed, int hour) {
            return 2 * super.wants(aNeed, hour);
        }
    }

    private static Pipe ofKind(int kind) {
        Pipe[] all = {new Pipe(), new Saver(), new Babe(), new Sigh(), new Old(), new Laugh()};
        return all[kind];
    }

    static final class State {
        int air;
        int stroke;
        int hour;
        final List<Pipe> pipes = new ArrayList<>();

        State twin() {
            State s = new State();
            s.air = air;
            s.stroke = stroke;
            s.hour = hour;
            for (Pipe p : pipes) {
                s.pipes.add(p.twin());
            }
            return s;
        }

        boolean off(int i) {
            Pipe p = pipes.get(i);
            return p.cut || p.from > 0 && off(p.from - 1);
        }

        int wants(int i) {
            return pipes.get(i).wants(pipes.get(i).need, hour);
        }

        int blow() {
            int spoke = 0;
            air += stroke;
            if (air > 60) {
                air = 60;
            }
            for (int i = 0; i < pipes.size(); i++) {
                if (!off(i)) {
                    spoke += breathes(i) ? 1 << i : 0;
                }
            }
            hour++;
            return spoke;
        }

        private boolean breathes(int i) {
            Pipe p = pipes.get(i);
            if (p.leaks && air > 0) {
                air--;
            }
            int due = wants(i);
            if (due == 0) {
                return false;
            }
            if (due > air + p.saved) {
                air = p instanceof Babe ? 0 : air;
                return false;
            }
            p.said++;
            int fromAir = Math.min(air, due);
            air -= fromAir;
            p.saved -= due - fromAir;
            if (fromAir == due && p.keeps() > 0 && air >= p.keeps()) {
                air -= p.keeps();
                p.saved = Math.min(20, p.saved + p.keeps());
            }
            return true;
        }

        int bits(boolean ofCut) {
            int bits = 0;
            for (int i = 0; i < pipes.size(); i++) {
                bits += (ofCut ? pipes.get(i).cut : pipes.get(i).leaks) ? 1 << i : 0;
            }
            return bits;
        }

        void setLeaks(int bits) {
            for (int i = 0; i < pipes.size(); i++) {
                pipes.get(i).leaks = (bits >> i & 1) == 1;
            }
        }
    }

    private final List<List<Integer>> rows = new ArrayList<>(Collections.nCopies(6, null));
    private final List<byte[]> texts = new ArrayList<>(Collections.nCopies(4, null));
    /** The town ahead of each deed, and as it is now, last. */
    private List<State> past = new ArrayList<>(List.of(new State()));
    private final List<List<State>> kept = new ArrayList<>(Collections.nCopies(3, null));
    private final int[] times = new int[6];
    private int latest = 0;
    private int asked = 0;
    private BigInteger upper = BigInteger.ZERO;
    private BigInteger lower = BigInteger.ONE;

    private State now() {
        return past.get(past.size() - 1);
    }

    private int size() {
        return now().pipes.size();
    }

    private int deeds() {
        return past.size() - 1;
    }

    private boolean noPipe(int i) {
        return i < 0 || i >= size();
    }

    private int refuse(int finding) {
        latest = finding;
        times[finding]++;
        return -3;
    }

    private int answer(int value) {
        asked = value;
        return 1;
    }

    private void share(long up, long low) {
        BigInteger a = BigInteger.valueOf(up);
        BigInteger b = BigInteger.valueOf(low);
        BigInteger g = a.gcd(b);
        upper = a.divide(g);
        lower = b.divide(g);
    }

    private static boolean outside(int v, int least, int most) {
        return v < least || v > most;
    }

    public int row(int r, int n) {
        if (outside(r, 0, 5) || n > 40) {
            return -1;
        }
        if (n < 0) {
            return refuse(5);
        }
        rows.set(r, new ArrayList<>(Collections.nCopies(n, 0)));
        return n;
    }

    public int lay(int r, int i, int v) {
        if (outside(r, 0, 5)) {
            return -1;
        }
        if (rows.get(r) == null) {
            return refuse(1);
        }
        return outside(i, 0, rows.get(r).size() - 1) ? refuse(2) : answer(rows.get(r).set(i, v));
    }

    public int at(int r, int i) {
        if (outside(r, 0, 5)) {
            return -1;
        }
        if (rows.get(r) == null) {
            return refuse(1);
        }
        return outside(i, 0, rows.get(r).size() - 1) ? refuse(2) : answer(rows.get(r).get(i));
    }

    public int tear(int r) {
        if (outside(r, 0, 5)) {
            return -1;
        }
        return rows.set(r, null) == null ? refuse(1) : 1;
    }

    public int copy(int r, int i, int to, int j, int n) {
        if (outside(r, 0, 5) || outside(to, 0, 5)) {
            return -1;
        }
        if (n < 0) {
            return refuse(5);
        }
        if (rows.get(r) == null || rows.get(to) == null) {
            return refuse(1);
        }
        if (i < 0 || j < 0 || (long) i + n > rows.get(r).size() || (long) j + n > rows.get(to).size()) {
            return refuse(2);
        }
        List<Integer> taken = new ArrayList<>(rows.get(r).subList(i, i + n));
        for (int k = 0; k < n; k++) {
            rows.get(to).set(j + k, taken.get(k));
        }
        return 1;
    }

    public int mean(int r) {
        if (outside(r, 0, 5)) {
            return -1;
        }
        if (rows.get(r) == null) {
            return refuse(1);
        }
        BigInteger sum = BigInteger.ZERO;
        for (int v : rows.get(r)) {
            sum = sum.add(BigInteger.valueOf(v));
        }
        int n = rows.get(r).size();
        return n == 0 ? refuse(4) : answer(sum.divide(BigInteger.valueOf(n)).intValueExact());
    }

    public int text(int t, int n) {
        if (outside(t, 0, 3) || n > 60) {
            return -1;
        }
        if (n < 0) {
            return refuse(5);
        }
        byte[] blanks = new byte[n];
        java.util.Arrays.fill(blanks, (byte) 32);
        texts.set(t, blanks);
        return n;
    }

    public int put(int t, int i, int v) {
        if (outside(t, 0, 3)) {
            return -1;
        }
        byte[] text = texts.get(t);
        if (text == null) {
            return refuse(1);
        }
        if (outside(i, 0, text.length - 1)) {
            return refuse(2);
        }
        int was = text[i];
        text[i] = (byte) v;
        return 1000 + was;
    }

    private static final Pattern BELLOWS = Pattern.compile(" *a([0-5][0-9]|60)[0-9]");
    private static final Pattern ITEM = Pattern.compile(" *([psbtol])([0-6])([1-9])");
    private static final Pattern OVER = Pattern.compile(" *a(6[1-9]|[7-9][0-9])");

    /** By the longest start of the text that could still become a town's. */
    private static int faultOf(String s) {
        Matcher over = OVER.matcher(s);
        if (over.lookingAt()) {
            return over.start(1);
        }
        for (int n = 1; n <= s.length(); n++) {
            if (!canGoOn(s.substring(0, n))) {
                return n - 1;
            }
        }
        return read(s) == null ? s.length() : -9;
    }

    private static boolean canGoOn(String start) {
        if (start.matches(" *")) {
            return true;
        }
        if (start.matches(" *a[0-9]?")) {
            return true;
        }
        String[] ends = {"", "0", "p01", "01", "1"};
        for (String end : ends) {
            if (read(start + end) != null) {
                return true;
            }
        }
        return start.matches(" *a[0-9][0-9]");
    }

    private static State read(String s) {
        Matcher bellows = BELLOWS.matcher(s);
        if (!bellows.lookingAt()) {
            return null;
        }
        State town = new State();
        town.air = Integer.parseInt(bellows.group(1));
        town.stroke = s.charAt(bellows.end() - 1) - '0';
        Matcher item = ITEM.matcher(s);
        int place = bellows.end();
        while (item.find(place) && item.start() == place) {
            Pipe p = ofKind("psbtol".indexOf(item.group(1)));
            p.from = Integer.parseInt(item.group(2));
            p.need = Integer.parseInt(item.group(3));
            if (p.from > town.pipes.size()) {
                return null;
            }
            town.pipes.add(p);
            place = item.end();
        }
        boolean rest = s.substring(place).matches(" *");
        return rest && town.pipes.size() >= 1 && town.pipes.size() <= 6 ? town : null;
    }

    private String textOf(int t) {
        StringBuilder b = new StringBuilder();
        for (byte v : texts.get(t)) {
            b.append((char) (v & 255));
        }
        return b.toString();
    }

    public int fault(int t) {
        if (outside(t, 0, 3)) {
            return -1;
        }
        return texts.get(t) == null ? refuse(1) : faultOf(textOf(t));
    }

    public int town(int t) {
        if (outside(t, 0, 3)) {
            return -1;
        }
        if (texts.get(t) == null) {
            return refuse(1);
        }
        State town = read(textOf(t));
        if (town == null) {
            return -4;
        }
        past = new ArrayList<>(List.of(town));
        Collections.fill(kept, null);
        return size();
    }

    private int fact(int i, int what) {
        Pipe p = now().pipes.get(i);
        int[] facts = {
            p.letterAndKind(), p.from == 0 ? -9 : p.from - 1, p.need, now().wants(i), p.saved, p.said,
            now().off(i) ? 1 : 0, p.leaks ? 1 : 0};
        return facts[what];
    }

    public int pipe(int i, int what) {
        return noPipe(i) || outside(what, 0, 7) ? -1 : answer(fact(i, what));
    }

    public int mark(int i, int kind) {
        if (noPipe(i) || outside(kind, 1, 5)) {
            return -1;
        }
        Pipe p = now().pipes.get(i);
        if (!ofKind(kind).getClass().isInstance(p)) {
            return refuse(3);
        }
        if (kind == 1) {
            return 20 - p.saved;
        }
        if (kind == 2) {
            return p.need > now().air ? p.need - now().air : 0;
        }
        if (kind == 3) {
            return now().wants(i) - p.need;
        }
        int n = 0;
        if (kind == 4) {
            while (p.wants(p.need, now().hour + n) != 0) {
                n++;
            }
            return n;
        }
        for (int j = 0; j < size(); j++) {
            n += now().wants(j) > now().wants(i) ? 0 : 1;
        }
        return n;
    }

    private boolean deed(Consumer<State> does) {
        if (deeds() == 40) {
            return false;
        }
        State next = now().twin();
        does.accept(next);
        past.add(next);
        return true;
    }

    public int hour() {
        if (size() == 0) {
            return -4;
        }
        int[] spoke = new int[1];
        return deed(s -> spoke[0] = s.blow()) ? spoke[0] : -2;
    }

    public int pump(int n) {
        if (n == 0 || outside(n, -9, 9)) {
            return -1;
        }
        if (size() == 0 || outside(now().air + n, 0, 60)) {
            return -4;
        }
        return deed(s -> s.air += n) ? now().air : -2;
    }

    public int cut(int i) {
        if (noPipe(i)) {
            return -1;
        }
        return !deed(s -> s.pipes.get(i).cut ^= true) ? -2 : now().pipes.get(i).cut ? 1 : 0;
    }

    public int leak(int i) {
        if (noPipe(i)) {
            return -1;
        }
        return !deed(s -> s.pipes.get(i).leaks ^= true) ? -2 : now().pipes.get(i).leaks ? 1 : 0;
    }

    public int stroke(int n) {
        if (outside(n, 0, 9)) {
            return -1;
        }
        int was = now().stroke;
        if (size() == 0 || was == n) {
            return -4;
        }
        return deed(s -> s.stroke = n) ? was : -2;
    }

    public int undo(int n) {
        if (outside(n, 0, deeds())) {
            return -1;
        }
        int undone = deeds() - n;
        past = new ArrayList<>(past.subList(0, n + 1));
        return undone;
    }

    public int keep(int k) {
        if (outside(k, 0, 2)) {
            return -1;
        }
        if (size() == 0) {
            return -4;
        }
        kept.set(k, new ArrayList<>(past));
        return deeds();
    }

    public int on(int k) {
        if (outside(k, 0, 2)) {
            return -1;
        }
        if (kept.get(k) == null) {
            return refuse(1);
        }
        past = new ArrayList<>(kept.get(k));
        return deeds();
    }

    public int wants(int i, int need, int number) {
        if (noPipe(i) || outside(need, 1, 9) || outside(number, 0, 99)) {
            return -1;
        }
        return now().pipes.get(i).wants(need, number);
    }

    public int air(int n) {
        if (outside(n, 0, 40)) {
            return -1;
        }
        if (size() == 0) {
            return -4;
        }
        State s = now().twin();
        List<Integer> spoke = hours(s, n);
        answer(n == 0 ? 0 : spoke.get(n - 1));
        return s.air;
    }

    private static List<Integer> hours(State s, int n) {
        List<Integer> spoke = new ArrayList<>();
        for (int k = 0; k < n; k++) {
            spoke.add(s.blow());
        }
        return spoke;
    }

    public int says(int i, int n) {
        if (noPipe(i) || outside(n, 0, 40)) {
            return -1;
        }
        return (int) hours(now().twin(), n).stream().filter(spoke -> (spoke >> i & 1) == 1).count();
    }

    public int first(int i) {
        if (noPipe(i)) {
            return -1;
        }
        for (int n = 1; n <= 40; n++) {
            if (says(i, n) > 0) {
                return n;
            }
        }
        return -9;
    }

    public int hush(int i) {
        if (noPipe(i)) {
            return -1;
        }
        for (int size = 0; size < 6; size++) {
            for (int set = 0; set < 1 << size(); set++) {
                if (Integer.bitCount(set) == size && (set >> i & 1) == 0 && (set & now().bits(true)) == 0) {
                    State s = now().twin();
                    for (int j = 0; j < size(); j++) {
                        s.pipes.get(j).cut |= (set >> j & 1) == 1;
                    }
                    if ((s.blow() >> i & 1) == 1) {
                        answer(set);
                        return size;
                    }
                }
            }
        }
        return -9;
    }

    public int least(int i) {
        if (noPipe(i)) {
            return -1;
        }
        for (int n = 0; n <= 60; n++) {
            State s = now().twin();
            s.air = Math.min(60, s.air + n);
            if ((s.blow() >> i & 1) == 1) {
                return n;
            }
        }
        return -9;
    }

    public int hard(int set, int n) {
        if (outside(set, 0, (1 << size()) - 1) || outside(n, 1, 20)) {
            return -1;
        }
        if (size() == 0) {
            return -4;
        }
        for (int stroke = 0; stroke <= 9; stroke++) {
            State s = now().twin();
            s.stroke = stroke;
            hours(s, n);
            boolean all = true;
            for (int i = 0; i < size(); i++) {
                all &= (set >> i & 1) == 0 || s.pipes.get(i).said - now().pipes.get(i).said == n;
            }
            if (all) {
                return stroke;
            }
        }
        return -9;
    }

    private int refusesHeard(int r) {
        if (rows.get(r) == null) {
            return refuse(1);
        }
        if (outside(rows.get(r).size(), 1, 10)) {
            return refuse(5);
        }
        for (int set : rows.get(r)) {
            if (outside(set, 0, (1 << size()) - 1)) {
                return refuse(3);
            }
        }
        return 0;
    }

    private int refusesHearing(int r) {
        if (outside(r, 0, 5)) {
            return -1;
        }
        return size() == 0 ? -4 : refusesHeard(r);
    }

    private boolean fits(State s, int r) {
        return hours(s, rows.get(r).size()).equals(rows.get(r));
    }

    private List<State> leaking(int r) {
        List<State> fitting = new ArrayList<>();
        for (int set = 0; set < 1 << size(); set++) {
            State s = now().twin();
            s.setLeaks(set);
            if (fits(s, r)) {
                fitting.add(s);
            }
        }
        return fitting;
    }

    public int leaks(int r) {
        int refused = refusesHearing(r);
        if (refused != 0) {
            return refused;
        }
        List<State> fitting = leaking(r);
        share(fitting.size(), 1);
        return answer(fitting.isEmpty() ? -9 : fitting.get(0).bits(false));
    }

    public int listen(int r) {
        int refused = refusesHearing(r);
        if (refused != 0) {
            return refused;
        }
        List<State> fitting = leaking(r);
        if (fitting.isEmpty()) {
            return -9;
        }
        int best = -1;
        int part = Integer.MAX_VALUE;
        for (int i = size() - 1; i >= 0; i--) {
            int says = 0;
            for (State s : fitting) {
                says += s.twin().blow() >> i & 1;
            }
            int greatest = Math.max(says, fitting.size() - says);
            if (greatest <= part) {
                best = i;
                part = greatest;
            }
        }
        answer(part);
        return best;
    }

    public int strokes(int r) {
        int refused = refusesHearing(r);
        if (refused != 0) {
            return refused;
        }
        int bits = 0;
        for (int stroke = 0; stroke <= 9; stroke++) {
            State s = now().twin();
            s.stroke = stroke;
            bits += fits(s, r) ? 1 << stroke : 0;
        }
        return bits;
    }

    public int kinds(int i, int r) {
        if (noPipe(i) || outside(r, 0, 5)) {
            return -1;
        }
        int refused = refusesHeard(r);
        if (refused != 0) {
            return refused;
        }
        int bits = 0;
        for (int kind = 0; kind <= 5; kind++) {
            State s = now().twin();
            Pipe was = s.pipes.get(i);
            Pipe p = ofKind(kind);
            p.from = was.from;
            p.need = was.need;
            p.saved = was.saved;
            p.said = was.said;
            p.cut = was.cut;
            p.leaks = was.leaks;
            s.pipes.set(i, p);
            bits += fits(s, r) ? 1 << kind : 0;
        }
        return bits;
    }

    private List<Integer> wanting(int v) {
        List<Integer> fitting = new ArrayList<>();
        for (int set = 0; set < 1 << size(); set++) {
            int sum = 0;
            for (int i = 0; i < size(); i++) {
                sum += (set >> i & 1) * now().wants(i);
            }
            if (sum == v) {
                fitting.add(set);
            }
        }
        return fitting;
    }

    public int sets(int v) {
        if (outside(v, 0, 99)) {
            return -1;
        }
        if (size() == 0) {
            return -4;
        }
        List<Integer> fitting = wanting(v);
        share(fitting.size(), 1);
        return answer(fitting.isEmpty() ? -9 : fitting.get(0));
    }

    public int sure(int v) {
        if (outside(v, 0, 99)) {
            return -1;
        }
        if (size() == 0) {
            return -4;
        }
        List<Integer> fitting = wanting(v);
        if (fitting.isEmpty()) {
            return refuse(4);
        }
        int each = 0;
        int none = 0;
        for (int i = 0; i < size(); i++) {
            int bit = 1 << i;
            each += fitting.stream().allMatch(set -> (set & bit) != 0) ? bit : 0;
            none += fitting.stream().noneMatch(set -> (set & bit) != 0) ? bit : 0;
        }
        answer(none);
        return each;
    }

    private int turns(State s, int left) {
        if (left == 0) {
            int spoke = s.twin().blow();
            int more = 0;
            for (int i = 0; i < size(); i++) {
                more += (spoke >> i & 1) * (i % 2 == 0 ? 1 : -1);
            }
            return more;
        }
        boolean first = left % 2 == 0;
        int best = turns(s, left - 1);
        for (Pipe p : s.pipes) {
            p.cut = !p.cut;
            int gain = turns(s, left - 1);
            p.cut = !p.cut;
            best = first == gain > best ? gain : best;
        }
        return best;
    }

    public int duel(int n) {
        if (outside(n, 0, 2)) {
            return -1;
        }
        return size() == 0 ? -4 : answer(turns(now().twin(), 2 * n));
    }

    /** Sums over all that may leak, pipe by pipe: of the air, or of whether pipe i speaks. */
    private long sumOf(State s, int from, int p, int i) {
        if (from == size()) {
            State then = s.twin();
            int spoke = then.blow();
            return i < 0 ? then.air : spoke >> i & 1;
        }
        Pipe pipe = s.pipes.get(from);
        if (pipe.leaks) {
            return 12 * sumOf(s, from + 1, p, i);
        }
        long tight = sumOf(s, from + 1, p, i);
        pipe.leaks = true;
        long leaking = sumOf(s, from + 1, p, i);
        pipe.leaks = false;
        return (12 - p) * tight + p * leaking;
    }

    private int chance(int p, int i) {
        share(sumOf(now().twin(), 0, p, i), Math.round(Math.pow(12, size())));
        return 1;
    }

    public int odds(int i, int p) {
        return noPipe(i) || outside(p, 0, 12) ? -1 : chance(p, i);
    }

    public int mid(int p) {
        if (outside(p, 0, 12)) {
            return -1;
        }
        return size() == 0 ? -4 : chance(p, -1);
    }

    public int lots(int n, int seed) {
        if (outside(n, 1, 20) || outside(seed, 1, 2147483646)) {
            return -1;
        }
        if (size() == 0) {
            return -4;
        }
        if (deeds() + n > 40) {
            return -2;
        }
        BigInteger lot = BigInteger.valueOf(seed);
        for (int k = 0; k < n; k++) {
            lot = lot.multiply(BigInteger.valueOf(48271)).mod(BigInteger.valueOf(2147483647));
            int it = lot.intValueExact();
            int what = it / 8 % 8;
            if (what == 4) {
                cut(it % size());
            } else if (what == 5) {
                leak(it % size());
            } else if (what == 6) {
                deed(s -> s.stroke = it / 64 % 10);
            } else if (what == 7) {
                deed(s -> s.air = Math.min(60, s.air + 1 + it / 64 % 9));
            } else {
                hour();
            }
        }
        return now().air;
    }

    public int asked() {
        return asked;
    }

    public long upper() {
        return upper.longValueExact();
    }

    public long lower() {
        return lower.longValueExact();
    }

    public int count(int what) {
        if (outside(what, 0, 13)) {
            return -1;
        }
        List<Pipe> pipes = now().pipes;
        int[] counts = {
            size(), now().air, now().stroke, now().hour, deeds(), now().bits(true), now().bits(false),
            pipes.stream().mapToInt(p -> p.saved).sum(), pipes.stream().mapToInt(p -> p.said).sum(),
            (int) pipes.stream().filter(p -> p instanceof Saver).count(),
            (int) pipes.stream().filter(p -> p instanceof Sigh).count(),
            (int) rows.stream().filter(r -> r != null).count(), (int) texts.stream().filter(t -> t != null).count(),
            (int) kept.stream().filter(k -> k != null).count()};
        return counts[what];
    }

    public int finding() {
        return latest;
    }

    public int findings(int f) {
        return outside(f, 1, 5) ? -1 : times[f];
    }

    public long digest() {
        List<Integer> values = new ArrayList<>();
        for (int what = 0; what <= 13; what++) {
            values.add(count(what));
        }
        for (int i = 0; i < size(); i++) {
            for (int what = 0; what <= 7; what++) {
                values.add(fact(i, what));
            }
        }
        for (List<State> k : kept) {
            values.add(k == null ? -1 : k.size() - 1);
        }
        for (List<Integer> r : rows) {
            values.add(r == null ? -1 : r.size());
            values.addAll(r == null ? List.of() : r);
        }
        for (byte[] t : texts) {
            values.add(t == null ? -1 : t.length);
            for (int i = 0; t != null && i < t.length; i++) {
                values.add((int) t[i]);
            }
        }
        long h = 17;
        for (int v : values) {
            h = 31 * h + v;
        }
        return h;
    }
}
