import java.util.Arrays;

/** The breath of a town, blown round by pipes from one bellows; what it promises is told in DOC.md. */
public final class BlowerBreath {
    public static final int BAD = -1, FULL = -2, FINDING = -3, STATE = -4, SPENT = -6, NONE = -9;

    private static final int NOTHING = 1, BEYOND = 2, UNLIKE = 3, NOUGHT = 4, SIZE = 5;
    private static final int ROWS = 6, ROW_MOST = 40, TEXTS = 4, TEXT_MOST = 60, PLACES = 3;
    private static final int MISSING = -1, GRANTED = 0;
    private static final int HOURS_MOST = 40, HARD_MOST = 20, HEARD_MOST = 10, LOTS_MOST = 20;
    private static final int PIPE_FACTS = 8, COUNTS = 14, STROKES = 10, PARTS = 12;
    private static final long LOT_FACTOR = 48271, LOT_MODULUS = 2147483647;

    private final int[][] rows = new int[ROWS][ROW_MOST];
    private final int[] rowSizes = new int[ROWS];
    private final byte[][] texts = new byte[TEXTS][TEXT_MOST];
    private final int[] textSizes = new int[TEXTS];
    private final Reader reader = new Reader();
    private final Town town = new Town();
    /** What is asked aside is tried out here, so that the town itself stays as it is. */
    private final Town trial = new Town();
    private final Deeds deeds = new Deeds();
    /** All kept towns are of the same text, so their deeds alone bring them back. */
    private final Deeds[] kept = new Deeds[PLACES];
    private final int[] tally = new int[Town.MOST];
    private final int[] gains = new int[Town.SETS];
    private final int[] nextGains = new int[Town.SETS];
    private final int[] findingTimes = new int[SIZE + 1];
    private int latestFinding = 0;
    private int latestAsked = 0;
    private long latestUpper = 0;
    private long latestLower = 1;

    public BlowerBreath() {
        Arrays.fill(rowSizes, MISSING);
        Arrays.fill(textSizes, MISSING);
        for (int k = 0; k < PLACES; k++) {
            kept[k] = new Deeds();
            kept[k].size = MISSING;
        }
    }

    // ---- 1 rows, texts, towns

    public int row(int r, int n) {
        if (!isRow(r) || n > ROW_MOST) {
            return BAD;
        }
        if (n < 0) {
            return found(SIZE);
        }
        Arrays.fill(rows[r], 0);
        rowSizes[r] = n;
        return n;
    }

    public int lay(int r, int i, int v) {
        int refusal = refusedPlace(r, i);
        if (refusal != GRANTED) {
            return refusal;
        }
        int was = rows[r][i];
        rows[r][i] = v;
        return tell(was);
    }

    public int at(int r, int i) {
        int refusal = refusedPlace(r, i);
        return refusal != GRANTED ? refusal : tell(rows[r][i]);
    }

    public int tear(int r) {
        if (!isRow(r)) {
            return BAD;
        }
        if (rowSizes[r] == MISSING) {
            return found(NOTHING);
        }
        rowSizes[r] = MISSING;
        return 1;
    }

    public int copy(int r, int i, int to, int j, int n) {
        if (!isRow(r) || !isRow(to)) {
            return BAD;
        }
        if (n < 0) {
            return found(SIZE);
        }
        if (rowSizes[r] == MISSING || rowSizes[to] == MISSING) {
            return found(NOTHING);
        }
        if (!hasPlaces(rowSizes[r], i, n) || !hasPlaces(rowSizes[to], j, n)) {
            return found(BEYOND);
        }
        System.arraycopy(rows[r], i, rows[to], j, n);
        return 1;
    }

    public int mean(int r) {
        if (!isRow(r)) {
            return BAD;
        }
        int size = rowSizes[r];
        if (size == MISSING) {
            return found(NOTHING);
        }
        if (size == 0) {
            return found(NOUGHT);
        }
        long sum = 0;
        for (int i = 0; i < size; i++) {
            sum += rows[r][i];
        }
        return tell((int) (sum / size));
    }

    public int text(int t, int n) {
        if (!isText(t) || n > TEXT_MOST) {
            return BAD;
        }
        if (n < 0) {
            return found(SIZE);
        }
        Arrays.fill(texts[t], (byte) ' ');
        textSizes[t] = n;
        return n;
    }

    public int put(int t, int i, int v) {
        if (!isText(t)) {
            return BAD;
        }
        if (textSizes[t] == MISSING) {
            return found(NOTHING);
        }
        if (!hasPlaces(textSizes[t], i, 1)) {
            return found(BEYOND);
        }
        int was = texts[t][i];
        texts[t][i] = (byte) v;
        return was + 1000;
    }

    public int fault(int t) {
        if (!isText(t)) {
            return BAD;
        }
        if (textSizes[t] == MISSING) {
            return found(NOTHING);
        }
        return reader.readTown(texts[t], textSizes[t], trial);
    }

    public int town(int t) {
        if (!isText(t)) {
            return BAD;
        }
        if (textSizes[t] == MISSING) {
            return found(NOTHING);
        }
        if (reader.readTown(texts[t], textSizes[t], trial) != NONE) {
            return STATE;
        }
        town.become(trial);
        deeds.size = 0;
        for (int k = 0; k < PLACES; k++) {
            kept[k].size = MISSING;
        }
        return town.pipes;
    }

    public int pipe(int i, int what) {
        if (!town.hasPipe(i) || what < 0 || what >= PIPE_FACTS) {
            return BAD;
        }
        return tell(pipeFact(i, what));
    }

    public int mark(int i, int kind) {
        if (!town.hasPipe(i) || kind <= Kind.PIPE || kind >= Kind.COUNT) {
            return BAD;
        }
        if (!Kind.isOf(town.kind[i], kind)) {
            return found(UNLIKE);
        }
        switch (kind) {
            case Kind.SAVER:
                return Town.SAVED_MOST - town.saved[i];
            case Kind.BABE:
                return Math.max(0, town.need[i] - town.air);
            case Kind.SIGH:
                return town.wantNext(i) - town.need[i];
            case Kind.OLD:
                return Kind.hoursToRest(town.number);
            default:
                return wantingNoMoreThan(i);
        }
    }

    // ---- 2 deeds

    public int hour() {
        if (town.pipes == 0) {
            return STATE;
        }
        return perform(Deeds.HOUR, 0);
    }

    public int pump(int n) {
        if (n == 0 || n < -9 || n > 9) {
            return BAD;
        }
        if (town.pipes == 0 || town.air + n > Town.AIR_MOST || town.air + n < 0) {
            return STATE;
        }
        return perform(Deeds.AIR, n);
    }

    public int cut(int i) {
        return town.hasPipe(i) ? perform(Deeds.CUT, i) : BAD;
    }

    public int leak(int i) {
        return town.hasPipe(i) ? perform(Deeds.LEAK, i) : BAD;
    }

    public int stroke(int n) {
        if (n < 0 || n >= STROKES) {
            return BAD;
        }
        if (town.pipes == 0 || town.stroke == n) {
            return STATE;
        }
        return perform(Deeds.STROKE, n);
    }

    public int undo(int n) {
        // the number that the next DEED would have is one, too: from it on there is nothing to be undone
        if (n < 0 || n > deeds.size) {
            return BAD;
        }
        int undone = deeds.size - n;
        deeds.size = n;
        town.relive(deeds);
        return undone;
    }

    public int keep(int k) {
        if (!isKeepingPlace(k)) {
            return BAD;
        }
        if (town.pipes == 0) {
            return STATE;
        }
        kept[k].become(deeds);
        return deeds.size;
    }

    public int on(int k) {
        if (!isKeepingPlace(k)) {
            return BAD;
        }
        if (kept[k].size == MISSING) {
            return found(NOTHING);
        }
        deeds.become(kept[k]);
        town.relive(deeds);
        return deeds.size;
    }

    // ---- 3 what comes

    public int wants(int i, int need, int number) {
        if (!town.hasPipe(i) || need < 1 || need > 9 || number < 0 || number > 99) {
            return BAD;
        }
        return Kind.want(town.kind[i], need, number);
    }

    public int air(int n) {
        if (n < 0 || n > HOURS_MOST) {
            return BAD;
        }
        if (town.pipes == 0) {
            return STATE;
        }
        trial.become(town);
        int spoke = 0;
        for (int k = 0; k < n; k++) {
            spoke = trial.blow();
        }
        tell(spoke);
        return trial.air;
    }

    public int says(int i, int n) {
        if (!town.hasPipe(i) || n < 0 || n > HOURS_MOST) {
            return BAD;
        }
        trial.become(town);
        for (int k = 0; k < n; k++) {
            trial.blow();
        }
        return trial.said[i] - town.said[i];
    }

    public int first(int i) {
        if (!town.hasPipe(i)) {
            return BAD;
        }
        trial.become(town);
        for (int k = 1; k <= HOURS_MOST; k++) {
            if (Town.isIn(trial.blow(), i)) {
                return k;
            }
        }
        return NONE;
    }

    // ---- 4 so that one speaks

    public int hush(int i) {
        if (!town.hasPipe(i)) {
            return BAD;
        }
        int others = town.allPipes() & ~town.cutSet & ~(1 << i);
        int fewest = NONE;
        int least = NONE;
        for (int set = 0; set <= others; set++) {
            int size = Integer.bitCount(set);
            boolean fewer = fewest == NONE || size < fewest;
            if ((set & ~others) == 0 && fewer && Town.isIn(spokenIfCut(town.cutSet | set), i)) {
                fewest = size;
                least = set;
            }
        }
        if (fewest != NONE) {
            tell(least);
        }
        return fewest;
    }

    public int least(int i) {
        if (!town.hasPipe(i)) {
            return BAD;
        }
        for (int more = 0; town.air + more <= Town.AIR_MOST; more++) {
            trial.become(town);
            trial.air += more;
            if (Town.isIn(trial.blow(), i)) {
                return more;
            }
        }
        return NONE;
    }

    public int hard(int set, int n) {
        if (!town.isSet(set) || n < 1 || n > HARD_MOST) {
            return BAD;
        }
        if (town.pipes == 0) {
            return STATE;
        }
        for (int stroke = 0; stroke < STROKES; stroke++) {
            if (speakAlways(set, n, stroke)) {
                return stroke;
            }
        }
        return NONE;
    }

    // ---- 5 by who spoke

    public int leaks(int r) {
        int refusal = refusedHearing(r);
        if (refusal != GRANTED) {
            return refusal;
        }
        int sets = 0;
        int least = NONE;
        for (int set = 0; set <= town.allPipes(); set++) {
            if (leakingFits(set, r)) {
                sets++;
                least = least == NONE ? set : least;
            }
        }
        tellShare(sets, 1);
        return tell(least);
    }

    public int listen(int r) {
        int refusal = refusedHearing(r);
        if (refusal != GRANTED) {
            return refusal;
        }
        int sets = tallyNextSpeakers(r);
        if (sets == 0) {
            return NONE;
        }
        int best = 0;
        int bestPart = greaterPart(0, sets);
        for (int i = 1; i < town.pipes; i++) {
            int part = greaterPart(i, sets);
            if (part < bestPart) {
                best = i;
                bestPart = part;
            }
        }
        tell(bestPart);
        return best;
    }

    public int strokes(int r) {
        int refusal = refusedHearing(r);
        if (refusal != GRANTED) {
            return refusal;
        }
        int fitting = 0;
        for (int stroke = 0; stroke < STROKES; stroke++) {
            trial.become(town);
            trial.stroke = stroke;
            if (trialSpeaksLike(r)) {
                fitting |= 1 << stroke;
            }
        }
        return fitting;
    }

    public int kinds(int i, int r) {
        // no pipe's number fits a town without pipes, so that its STATE never shows here
        if (!town.hasPipe(i)) {
            return BAD;
        }
        int refusal = refusedHearing(r);
        if (refusal != GRANTED) {
            return refusal;
        }
        int fitting = 0;
        for (int kind = 0; kind < Kind.COUNT; kind++) {
            trial.become(town);
            trial.kind[i] = kind;
            if (trialSpeaksLike(r)) {
                fitting |= 1 << kind;
            }
        }
        return fitting;
    }

    // ---- 6 whose needs

    public int sets(int v) {
        int refusal = refusedSum(v);
        if (refusal != GRANTED) {
            return refusal;
        }
        int sets = 0;
        int earliest = NONE;
        for (int set = 0; set <= town.allPipes(); set++) {
            if (town.wantTogether(set) == v) {
                sets++;
                earliest = earliest == NONE ? set : earliest;
            }
        }
        tellShare(sets, 1);
        return tell(earliest);
    }

    public int sure(int v) {
        int refusal = refusedSum(v);
        if (refusal != GRANTED) {
            return refusal;
        }
        int inEach = town.allPipes();
        int inSome = 0;
        boolean fits = false;
        for (int set = 0; set <= town.allPipes(); set++) {
            if (town.wantTogether(set) == v) {
                fits = true;
                inEach &= set;
                inSome |= set;
            }
        }
        if (!fits) {
            return found(NOUGHT);
        }
        tell(town.allPipes() & ~inSome);
        return inEach;
    }

    // ---- 7 by turns

    public int duel(int n) {
        if (n < 0 || n > 2) {
            return BAD;
        }
        if (town.pipes == 0) {
            return STATE;
        }
        int sets = town.allPipes() + 1;
        for (int cutSet = 0; cutSet < sets; cutSet++) {
            gains[cutSet] = evenBeyondUneven(spokenIfCut(cutSet));
        }
        // from the last turn back to the first one, which the one who wants much has
        for (int turn = 2 * n - 1; turn >= 0; turn--) {
            for (int cutSet = 0; cutSet < sets; cutSet++) {
                nextGains[cutSet] = bestGain(cutSet, turn % 2 == 0);
            }
            System.arraycopy(nextGains, 0, gains, 0, sets);
        }
        return tell(gains[town.cutSet]);
    }

    // ---- 8 chances, lots

    public int odds(int i, int p) {
        if (!town.hasPipe(i) || p < 0 || p > PARTS) {
            return BAD;
        }
        tellMeanOfNextHour(i, p);
        return 1;
    }

    public int mid(int p) {
        if (p < 0 || p > PARTS) {
            return BAD;
        }
        if (town.pipes == 0) {
            return STATE;
        }
        tellMeanOfNextHour(NONE, p);
        return 1;
    }

    public int lots(int n, int seed) {
        if (n < 1 || n > LOTS_MOST || seed < 1 || seed >= LOT_MODULUS) {
            return BAD;
        }
        if (town.pipes == 0) {
            return STATE;
        }
        if (deeds.size + n > Deeds.MOST) {
            return FULL;
        }
        long lot = seed;
        for (int k = 0; k < n; k++) {
            lot = lot * LOT_FACTOR % LOT_MODULUS;
            performLot((int) lot);
        }
        return town.air;
    }

    // ---- 9 what is told

    public int asked() {
        return latestAsked;
    }

    public long upper() {
        return latestUpper;
    }

    public long lower() {
        return latestLower;
    }

    public int count(int what) {
        switch (what) {
            case 0:
                return town.pipes;
            case 1:
                return town.air;
            case 2:
                return town.stroke;
            case 3:
                return town.number;
            case 4:
                return deeds.size;
            case 5:
                return town.cutSet;
            case 6:
                return town.leakSet;
            case 7:
                return town.sumOf(town.saved);
            case 8:
                return town.sumOf(town.said);
            case 9:
                return town.pipesOf(Kind.SAVER);
            case 10:
                return town.pipesOf(Kind.SIGH);
            case 11:
                return thereOf(rowSizes);
            case 12:
                return thereOf(textSizes);
            case 13:
                return keptTowns();
            default:
                return BAD;
        }
    }

    public int finding() {
        return latestFinding;
    }

    public int findings(int f) {
        return f < NOTHING || f > SIZE ? BAD : findingTimes[f];
    }

    public long digest() {
        long h = 17;
        for (int what = 0; what < COUNTS; what++) {
            h = 31 * h + count(what);
        }
        for (int i = 0; i < town.pipes; i++) {
            for (int what = 0; what < PIPE_FACTS; what++) {
                h = 31 * h + pipeFact(i, what);
            }
        }
        for (int k = 0; k < PLACES; k++) {
            h = 31 * h + kept[k].size;
        }
        for (int r = 0; r < ROWS; r++) {
            h = 31 * h + rowSizes[r];
            for (int i = 0; i < rowSizes[r]; i++) {
                h = 31 * h + rows[r][i];
            }
        }
        for (int t = 0; t < TEXTS; t++) {
            h = 31 * h + textSizes[t];
            for (int i = 0; i < textSizes[t]; i++) {
                h = 31 * h + texts[t][i];
            }
        }
        return h;
    }

    // ---- what refuses, what tells

    private static boolean isRow(int r) {
        return r >= 0 && r < ROWS;
    }

    private static boolean isText(int t) {
        return t >= 0 && t < TEXTS;
    }

    private static boolean isKeepingPlace(int k) {
        return k >= 0 && k < PLACES;
    }

    /** Asked by a difference, since a sum of a place and a number of places could wrap around. */
    private static boolean hasPlaces(int size, int from, int n) {
        return from >= 0 && n <= size && from <= size - n;
    }

    private int found(int finding) {
        latestFinding = finding;
        findingTimes[finding]++;
        return FINDING;
    }

    private int tell(int value) {
        latestAsked = value;
        return 1;
    }

    private void tellShare(long part, long whole) {
        long divisor = greatestDivisor(part, whole);
        if (divisor > 0) {
            latestUpper = part / divisor;
            latestLower = whole / divisor;
        }
    }

    private static long greatestDivisor(long a, long b) {
        long larger = a;
        long smaller = b;
        for (int k = 0; k < 1000 && smaller != 0; k++) {
            long rest = larger % smaller;
            larger = smaller;
            smaller = rest;
        }
        return larger;
    }

    private int refusedPlace(int r, int i) {
        if (!isRow(r)) {
            return BAD;
        }
        if (rowSizes[r] == MISSING) {
            return found(NOTHING);
        }
        return hasPlaces(rowSizes[r], i, 1) ? GRANTED : found(BEYOND);
    }

    private int refusedHearing(int r) {
        if (!isRow(r)) {
            return BAD;
        }
        if (town.pipes == 0) {
            return STATE;
        }
        int size = rowSizes[r];
        if (size == MISSING) {
            return found(NOTHING);
        }
        if (size < 1 || size > HEARD_MOST) {
            return found(SIZE);
        }
        for (int k = 0; k < size; k++) {
            if (!town.isSet(rows[r][k])) {
                return found(UNLIKE);
            }
        }
        return GRANTED;
    }

    private int refusedSum(int v) {
        if (v < 0 || v > 99) {
            return BAD;
        }
        return town.pipes == 0 ? STATE : GRANTED;
    }

    private static int thereOf(int[] sizes) {
        int there = 0;
        for (int size : sizes) {
            there += size == MISSING ? 0 : 1;
        }
        return there;
    }

    private int keptTowns() {
        int there = 0;
        for (int k = 0; k < PLACES; k++) {
            there += kept[k].size == MISSING ? 0 : 1;
        }
        return there;
    }

    // ---- parts of the calls

    private int pipeFact(int i, int what) {
        switch (what) {
            case 0:
                return town.kind[i];
            case 1:
                return town.from[i];
            case 2:
                return town.need[i];
            case 3:
                return town.wantNext(i);
            case 4:
                return town.saved[i];
            case 5:
                return town.said[i];
            case 6:
                return Town.isIn(town.cutOffSet(), i) ? 1 : 0;
            default:
                return Town.isIn(town.leakSet, i) ? 1 : 0;
        }
    }

    private int wantingNoMoreThan(int i) {
        int most = town.wantNext(i);
        int pipes = 0;
        for (int j = 0; j < town.pipes; j++) {
            pipes += town.wantNext(j) <= most ? 1 : 0;
        }
        return pipes;
    }

    private int perform(int what, int by) {
        return deeds.add(what, by) ? town.undergo(what, by) : FULL;
    }

    private void performLot(int lot) {
        int pipe = town.pipes > 0 ? lot % town.pipes : 0;
        switch (lot / 8 % 8) {
            case 4:
                perform(Deeds.CUT, pipe);
                break;
            case 5:
                perform(Deeds.LEAK, pipe);
                break;
            case 6:
                perform(Deeds.STROKE, lot / 64 % 10);
                break;
            case 7:
                perform(Deeds.AIR, lot / 64 % 9 + 1);
                break;
            default:
                perform(Deeds.HOUR, 0);
                break;
        }
    }

    private int spokenIfCut(int cutSet) {
        trial.become(town);
        trial.cutSet = cutSet;
        return trial.blow();
    }

    private boolean speakAlways(int set, int hours, int stroke) {
        trial.become(town);
        trial.stroke = stroke;
        boolean all = true;
        for (int k = 0; all && k < hours; k++) {
            all = (set & ~trial.blow()) == 0;
        }
        return all;
    }

    private boolean leakingFits(int leakSet, int r) {
        trial.become(town);
        trial.leakSet = leakSet;
        return trialSpeaksLike(r);
    }

    private boolean trialSpeaksLike(int r) {
        boolean like = true;
        for (int k = 0; like && k < rowSizes[r]; k++) {
            like = trial.blow() == rows[r][k];
        }
        return like;
    }

    private int tallyNextSpeakers(int r) {
        Arrays.fill(tally, 0);
        int sets = 0;
        for (int set = 0; set <= town.allPipes(); set++) {
            if (leakingFits(set, r)) {
                sets++;
                int spoke = trial.blow();
                for (int i = 0; i < town.pipes; i++) {
                    tally[i] += Town.isIn(spoke, i) ? 1 : 0;
                }
            }
        }
        return sets;
    }

    private int greaterPart(int i, int sets) {
        return Math.max(tally[i], sets - tally[i]);
    }

    private static int evenBeyondUneven(int spoke) {
        return Integer.bitCount(spoke & 0x15) - Integer.bitCount(spoke & 0x2a);
    }

    private int bestGain(int cutSet, boolean muchWanted) {
        int best = gains[cutSet];
        for (int i = 0; i < town.pipes; i++) {
            int gain = gains[cutSet ^ 1 << i];
            best = muchWanted ? Math.max(best, gain) : Math.min(best, gain);
        }
        return best;
    }

    /** The mean of whether PIPE i SAYS something (its chance), or, i being NONE, of the AIR behind it. */
    private void tellMeanOfNextHour(int i, int p) {
        int tight = town.allPipes() & ~town.leakSet;
        long sum = 0;
        long whole = 0;
        for (int set = 0; set <= tight; set++) {
            if ((set & ~tight) == 0) {
                long weight = power(p, Integer.bitCount(set)) * power(PARTS - p, Integer.bitCount(tight & ~set));
                trial.become(town);
                trial.leakSet = town.leakSet | set;
                int spoke = trial.blow();
                int value = i == NONE ? trial.air : Town.isIn(spoke, i) ? 1 : 0;
                sum += weight * value;
                whole += weight;
            }
        }
        tellShare(sum, whole);
    }

    private static long power(long base, int times) {
        long product = 1;
        for (int k = 0; k < times; k++) {
            product *= base;
        }
        return product;
    }

    /** What the KINDS of PIPES differ in. */
    private static final class Kind {
        static final int PIPE = 0, SAVER = 1, BABE = 2, SIGH = 3, OLD = 4, LAUGH = 5, COUNT = 6;

        static int ofLetter(int sign) {
            switch (sign) {
                case 'p':
                    return PIPE;
                case 's':
                    return SAVER;
                case 'b':
                    return BABE;
                case 't':
                    return SIGH;
                case 'o':
                    return OLD;
                case 'l':
                    return LAUGH;
                default:
                    return NONE;
            }
        }

        static boolean isOf(int kind, int wanted) {
            switch (wanted) {
                case PIPE:
                    return true;
                case SAVER:
                    return kind == SAVER || kind == OLD;
                case SIGH:
                    return kind == SIGH || kind == LAUGH;
                default:
                    return kind == wanted;
            }
        }

        static int want(int kind, int need, int number) {
            switch (kind) {
                case SIGH:
                    return need + 1;
                case LAUGH:
                    return 2 * (need + 1);
                case OLD:
                    return number % 3 == 2 ? 0 : need;
                default:
                    return need;
            }
        }

        static int keeps(int kind) {
            return isOf(kind, SAVER) ? 1 : 0;
        }

        static int hoursToRest(int number) {
            return 2 - number % 3;
        }
    }

    /** A TOWN: its PIPES as they were told, and how it stands with them. */
    private static final class Town {
        static final int MOST = 6, SETS = 64, AIR_MOST = 60, SAVED_MOST = 20;

        int pipes = 0;
        int firstAir = 0;
        int firstStroke = 0;
        int air = 0;
        int stroke = 0;
        int number = 0;
        int cutSet = 0;
        int leakSet = 0;
        final int[] kind = new int[MOST];
        final int[] from = new int[MOST];
        final int[] need = new int[MOST];
        final int[] saved = new int[MOST];
        final int[] said = new int[MOST];

        static boolean isIn(int set, int i) {
            return (set >> i & 1) == 1;
        }

        boolean hasPipe(int i) {
            return i >= 0 && i < pipes;
        }

        int allPipes() {
            return (1 << pipes) - 1;
        }

        boolean isSet(int set) {
            return (set & ~allPipes()) == 0;
        }

        void found(int airAtFirst, int strokeAtFirst) {
            pipes = 0;
            firstAir = airAtFirst;
            firstStroke = strokeAtFirst;
            restart();
        }

        void join(int kindOfIt, int branch, int needOfIt) {
            if (pipes < MOST) {
                kind[pipes] = kindOfIt;
                from[pipes] = branch;
                need[pipes] = needOfIt;
                pipes++;
            }
        }

        void become(Town other) {
            pipes = other.pipes;
            firstAir = other.firstAir;
            firstStroke = other.firstStroke;
            air = other.air;
            stroke = other.stroke;
            number = other.number;
            cutSet = other.cutSet;
            leakSet = other.leakSet;
            for (int i = 0; i < MOST; i++) {
                kind[i] = other.kind[i];
                from[i] = other.from[i];
                need[i] = other.need[i];
                saved[i] = other.saved[i];
                said[i] = other.said[i];
            }
        }

        void relive(Deeds deeds) {
            restart();
            for (int k = 0; k < deeds.size && k < Deeds.MOST; k++) {
                undergo(deeds.what[k], deeds.by[k]);
            }
        }

        private void restart() {
            air = firstAir;
            stroke = firstStroke;
            number = 0;
            cutSet = 0;
            leakSet = 0;
            Arrays.fill(saved, 0);
            Arrays.fill(said, 0);
        }

        /** A DEED befalls the TOWN: what its call answers. */
        int undergo(int what, int by) {
            switch (what) {
                case Deeds.HOUR:
                    return blow();
                case Deeds.AIR:
                    air = Math.max(0, Math.min(AIR_MOST, air + by));
                    return air;
                case Deeds.CUT:
                    cutSet ^= 1 << by;
                    return cutSet >> by & 1;
                case Deeds.LEAK:
                    leakSet ^= 1 << by;
                    return leakSet >> by & 1;
                default:
                    int was = stroke;
                    stroke = by;
                    return was;
            }
        }

        /** An HOUR goes by: who SAYS something in it. */
        int blow() {
            air = Math.min(AIR_MOST, air + stroke);
            int cutOff = cutOffSet();
            int spoke = 0;
            for (int i = 0; i < pipes; i++) {
                if (!isIn(cutOff, i) && breathe(i)) {
                    said[i]++;
                    spoke |= 1 << i;
                }
            }
            number++;
            return spoke;
        }

        private boolean breathe(int i) {
            if (isIn(leakSet, i)) {
                air = Math.max(0, air - 1);
            }
            int want = Kind.want(kind[i], need[i], number);
            if (want == 0) {
                return false;
            }
            if (air >= want) {
                air -= want;
                save(i, Kind.keeps(kind[i]));
                return true;
            }
            if (air + saved[i] >= want) {
                saved[i] -= want - air;
                air = 0;
                return true;
            }
            if (kind[i] == Kind.BABE) {
                air = 0;
            }
            return false;
        }

        /** Also one that can SAVE no more takes what it KEEPS: that is lost. */
        private void save(int i, int keeps) {
            if (air >= keeps) {
                air -= keeps;
                saved[i] = Math.min(SAVED_MOST, saved[i] + keeps);
            }
        }

        /** One pass is enough: a PIPE branches from one told ahead of it. */
        int cutOffSet() {
            int cutOff = cutSet;
            for (int i = 0; i < pipes; i++) {
                if (from[i] >= 0 && isIn(cutOff, from[i])) {
                    cutOff |= 1 << i;
                }
            }
            return cutOff;
        }

        int wantNext(int i) {
            return Kind.want(kind[i], need[i], number);
        }

        int wantTogether(int set) {
            int sum = 0;
            for (int i = 0; i < pipes; i++) {
                sum += isIn(set, i) ? wantNext(i) : 0;
            }
            return sum;
        }

        int sumOf(int[] ofPipes) {
            int sum = 0;
            for (int i = 0; i < pipes && i < ofPipes.length; i++) {
                sum += ofPipes[i];
            }
            return sum;
        }

        int pipesOf(int wanted) {
            int there = 0;
            for (int i = 0; i < pipes; i++) {
                there += Kind.isOf(kind[i], wanted) ? 1 : 0;
            }
            return there;
        }
    }

    /** What was done to a TOWN, in its order; size MISSING: no TOWN is kept here. */
    private static final class Deeds {
        static final int MOST = 40;
        static final int HOUR = 0, AIR = 1, CUT = 2, LEAK = 3, STROKE = 4;

        final int[] what = new int[MOST];
        final int[] by = new int[MOST];
        int size = 0;

        boolean add(int whatIsDone, int byHowMuch) {
            if (size < 0 || size >= MOST) {
                return false;
            }
            what[size] = whatIsDone;
            by[size] = byHowMuch;
            size++;
            return true;
        }

        void become(Deeds other) {
            size = other.size;
            System.arraycopy(other.what, 0, what, 0, MOST);
            System.arraycopy(other.by, 0, by, 0, MOST);
        }
    }

    /** Reads a TEXT into a TOWN, which is of use only if there was no FAULT. */
    private static final class Reader {
        private static final int NO_SIGN = 1000;

        private byte[] bytes = null;
        private int size = 0;
        private int place = 0;

        /** The FAULT's place, or NONE. */
        int readTown(byte[] signs, int howMany, Town into) {
            bytes = signs;
            size = howMany;
            place = 0;
            passBlanks();
            int fault = readBellows(into);
            for (int pipes = 0; fault == NONE && pipes <= Town.MOST; pipes++) {
                passBlanks();
                if (place >= size) {
                    return pipes == 0 ? size : NONE;
                }
                fault = pipes == Town.MOST ? place : readPipe(into);
            }
            return fault;
        }

        private int readBellows(Town into) {
            int tens = figureAt(place + 1);
            int ones = figureAt(place + 2);
            int stroke = figureAt(place + 3);
            if (signAt(place) != 'a') {
                return place;
            }
            if (tens == NONE) {
                return place + 1;
            }
            if (ones == NONE) {
                return place + 2;
            }
            if (10 * tens + ones > Town.AIR_MOST) {
                return place + 1;
            }
            if (stroke == NONE) {
                return place + 3;
            }
            into.found(10 * tens + ones, stroke);
            place += 4;
            return NONE;
        }

        private int readPipe(Town into) {
            int kind = Kind.ofLetter(signAt(place));
            int branch = figureAt(place + 1);
            int need = figureAt(place + 2);
            if (kind == NONE) {
                return place;
            }
            if (branch == NONE || branch > into.pipes) {
                return place + 1;
            }
            if (need == NONE || need == 0) {
                return place + 2;
            }
            into.join(kind, branch == 0 ? NONE : branch - 1, need);
            place += 3;
            return NONE;
        }

        private void passBlanks() {
            for (int k = 0; k < TEXT_MOST && signAt(place) == ' '; k++) {
                place++;
            }
        }

        private int figureAt(int where) {
            int sign = signAt(where);
            return sign >= '0' && sign <= '9' ? sign - '0' : NONE;
        }

        /** Behind the end there is a sign that is no byte, so that the end is a FAULT at the TEXT's size. */
        private int signAt(int where) {
            if (bytes == null || where < 0 || where >= size || where >= bytes.length) {
                return NO_SIGN;
            }
            return bytes[where];
        }
    }
}
