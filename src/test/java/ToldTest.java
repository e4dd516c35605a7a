import java.util.ArrayList;
import java.util.List;

/** Promises 39 to 45: what is told of what was asked, counted, found. */
public final class ToldTest {
    private static final Check C = new Check("Told");
    private static final String ALL_KINDS = "a105 p03s12b14t02o22l41";

    public static void main(String[] args) {
        asked();
        upperAndLower();
        count();
        countOfKinds();
        findings();
        digestOfNew();
        digest();
        refusedChangesNothing();
        C.end();
    }

    private static void asked() {
        BlowerBreath x = Towns.of(ALL_KINDS);
        C.due("39 0 before", x.asked(), 0);
        x.row(0, 2);
        x.lay(0, 0, 15);
        C.due("39 lay", x.asked(), 0);
        x.at(0, 0);
        C.due("39 at", x.asked(), 15);
        x.mean(0);
        C.due("39 mean", x.asked(), 7);
        x.pipe(0, 1);
        C.due("39 pipe", x.asked(), -9);
        x.row(0, 1);
        x.lay(0, 0, 15);
        x.air(1);
        C.due("39 air", x.asked(), 31);
        x.hush(5);
        C.due("39 hush", x.asked(), 1);
        x.duel(0);
        C.due("39 duel", x.asked(), 1);
        x.listen(0);
        C.due("39 listen", x.asked(), 38);
        x.leaks(0);
        C.due("39 leaks", x.asked(), 1);
        x.sets(7);
        C.due("39 sets", x.asked(), 5);
        x.sure(3);
        C.due("39 sure", x.asked(), 54);
        // none of these tells by asked()
        x.row(1, 3);
        x.copy(0, 0, 1, 0, 1);
        x.tear(1);
        x.text(1, 3);
        x.put(1, 0, 1);
        x.fault(1);
        x.mark(1, 1);
        x.hour();
        x.pump(1);
        x.cut(0);
        x.leak(0);
        x.stroke(1);
        x.undo(4);
        x.keep(0);
        x.on(0);
        x.wants(0, 9, 9);
        x.says(0, 9);
        x.first(0);
        x.least(0);
        x.hard(1, 1);
        x.strokes(0);
        x.kinds(0, 0);
        x.odds(0, 1);
        x.mid(1);
        x.lots(2, 1);
        x.count(1);
        x.finding();
        x.findings(1);
        x.digest();
        x.upper();
        x.lower();
        x.town(0);
        C.due("39 nothing else tells", x.asked(), 54);
    }

    private static void upperAndLower() {
        BlowerBreath x = Towns.of(ALL_KINDS);
        C.due("40 0 before", x.upper(), 0);
        C.due("41 1 before", x.lower(), 1);
        x.mid(5);
        C.due("40 mid", x.upper(), 15925);
        C.due("41 mid", x.lower(), 82944);
        Towns.fill(x, 0, 15);
        x.listen(0);
        x.sure(0);
        x.duel(1);
        x.mean(0);
        x.hour();
        x.town(0);
        C.due("40 told last", x.upper(), 15925);
        C.due("41 told last", x.lower(), 82944);
        x.leaks(0);
        C.due("40 leaks", x.upper(), 42);
        C.due("41 leaks", x.lower(), 1);
        x.odds(3, 4);
        C.due("40 odds", x.upper(), 8);
        C.due("41 odds", x.lower(), 9);
        x.sets(99);
        C.due("40 sets, none", x.upper(), 0);
        C.due("41 sets, none", x.lower(), 1);
    }

    private static void count() {
        BlowerBreath x = Towns.of("a309s01p11o01t01l01b01");
        x.row(1, 2);
        x.row(4, 0);
        x.text(2, 0);
        x.text(3, 1);
        x.hour();
        x.hour();
        x.cut(1);
        x.cut(3);
        x.leak(0);
        x.leak(4);
        x.stroke(8);
        x.pump(-3);
        x.keep(1);
        x.keep(2);
        // an hour: 1 and 1, 1, 1 and 1, 2, 4, 1 go of 9 more
        int[] due = {6, 30 + 9 - 12 + 9 - 12 - 3, 8, 2, 8, 10, 17, 4, 12, 2, 2, 2, 3, 2};
        for (int what = 0; what < due.length; what++) {
            C.due("42 count(" + what + ")", x.count(what), due[what]);
        }
        int[] bad = {-1, 14, Integer.MAX_VALUE, Integer.MIN_VALUE};
        for (int what : bad) {
            C.due("42 count(" + what + ")", x.count(what), BlowerBreath.BAD);
        }
        x.undo(0);
        C.due("42 kept towns stay", x.count(13), 2);
        C.due("42 nothing said", x.count(8), 0);
    }

    private static void countOfKinds() {
        BlowerBreath x = Towns.of(ALL_KINDS);
        C.due("42 savers", x.count(9), 2);
        C.due("42 sighs", x.count(10), 2);
        BlowerBreath y = Towns.of("a105o01o01s01l01");
        C.due("42 savers", y.count(9), 3);
        C.due("42 sighs", y.count(10), 1);
        Towns.write(y, 0, "a105b01");
        y.town(0);
        C.due("42 no savers", y.count(9), 0);
        C.due("42 no sighs", y.count(10), 0);
    }

    private static void findings() {
        BlowerBreath x = Towns.of(ALL_KINDS);
        x.tear(0);
        x.tear(0);
        x.on(0);
        C.due("43 NOTHING", x.finding(), 1);
        x.row(0, 0);
        x.at(0, 0);
        C.due("43 BEYOND", x.finding(), 2);
        x.mark(0, 1);
        C.due("43 UNLIKE", x.finding(), 3);
        x.mean(0);
        x.sure(99);
        C.due("43 NOUGHT", x.finding(), 4);
        x.row(0, -1);
        x.text(0, -1);
        x.copy(0, 0, 0, 0, -1);
        x.leaks(0);
        C.due("43 SIZE", x.finding(), 5);
        x.row(6, 0);
        x.hour();
        x.first(0);
        C.due("43 the latest", x.finding(), 5);
        int[] due = {3, 1, 1, 2, 4};
        for (int f = 1; f <= 5; f++) {
            C.due("44 findings(" + f + ")", x.findings(f), due[f - 1]);
        }
        C.due("44 findings(0)", x.findings(0), BlowerBreath.BAD);
        C.due("44 findings(6)", x.findings(6), BlowerBreath.BAD);
        C.due("44 findings(-1)", x.findings(-1), BlowerBreath.BAD);
        C.due("43 findings() are none", x.finding(), 5);
        x.tear(5);
        x.town(0);
        C.due("43 a town leaves it", x.finding(), 1);
        C.due("44 and these", x.findings(5), 4);
    }

    private static long fold(List<Long> values) {
        long h = 17;
        for (long v : values) {
            h = 31 * h + v;
        }
        return h;
    }

    private static void add(List<Long> values, int... more) {
        for (int v : more) {
            values.add((long) v);
        }
    }

    private static void digestOfNew() {
        List<Long> values = new ArrayList<>();
        add(values, 0, 0, 0, 0, 0, 0, 0, 0, 0, 0, 0, 0, 0, 0);
        add(values, -1, -1, -1);
        add(values, -1, -1, -1, -1, -1, -1);
        add(values, -1, -1, -1, -1);
        C.due("45 digest of a new object", new BlowerBreath().digest(), fold(values));
    }

    private static void digest() {
        BlowerBreath x = Towns.of("a105o03l12");
        x.keep(2);
        x.hour();
        x.leak(1);
        x.cut(0);
        x.keep(0);
        Towns.fill(x, 1, -7, 9);
        x.row(5, 0);
        Towns.fill(x, 0, 1, 2, 3);
        x.tear(0);
        x.text(3, 2);
        x.put(3, 1, -3);
        int told = x.asked();
        List<Long> values = new ArrayList<>();
        // 10 + 5 - 3 - 1 - 6 of air
        add(values, 2, 5, 5, 1, 3, 1, 2, 1, 2, 1, 1, 2, 2, 2);
        add(values, 4, -9, 3, 3, 1, 1, 1, 0);
        add(values, 5, 0, 2, 6, 0, 1, 1, 1);
        add(values, 3, -1, 0);
        add(values, -1, 2, -7, 9, -1, -1, -1, 0);
        add(values, 10);
        for (char sign : "a105o03l12".toCharArray()) {
            add(values, sign);
        }
        add(values, -1, -1, 2, 32, -3);
        C.due("45 digest", x.digest(), fold(values));
        C.due("45 tells nothing by asked()", x.asked(), told);
        C.due("45 again", x.digest(), fold(values));
    }

    private static void refusedChangesNothing() {
        BlowerBreath x = Towns.of(ALL_KINDS);
        Towns.fill(x, 0, 64);
        x.hour();
        x.odds(2, 5);
        long before = x.digest();
        String share = Towns.share(x);
        int told = x.asked();
        int[] got = {
            x.lay(0, 1, 5), x.lay(1, 0, 5), x.tear(3), x.copy(0, 0, 0, 1, 1), x.mean(4), x.text(0, -1), x.put(0, 60, 1),
            x.town(1), x.mark(0, 1), x.on(1), x.leaks(0), x.listen(0), x.strokes(0), x.kinds(1, 0), x.sure(98)};
        for (int answer : got) {
            C.due("44 a FINDING", answer, BlowerBreath.FINDING);
        }
        int sum = 0;
        for (int f = 1; f <= 5; f++) {
            sum += x.findings(f);
        }
        C.due("44 all of them", sum, got.length);
        C.due("45 nothing changed", x.digest(), before);
        C.due("40 nothing told", Towns.share(x).equals(share));
        C.due("39 nothing told", x.asked(), told);
    }
}
