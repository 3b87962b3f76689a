import java.util.ArrayList;
import java.util.Arrays;
import java.util.List;
import java.util.function.Supplier;
import java.util.function.ToIntFunction;

/** What the tests by hand have in common: the findings, lands to begin with, and checks that tell what is not as due. */
abstract class Edges {
    static final int LOW = -1000000;
    static final int BEYOND = LOW - 1;
    static final int NONE = LOW - 2;
    static final int STATE = LOW - 3;
    static final int FULL = LOW - 4;
    static final int KIND = LOW - 5;
    static final int LEAST = Integer.MIN_VALUE;
    static final int GREATEST = Integer.MAX_VALUE;

    private static int asked = 0;
    private static int wrong = 0;
    private static String name = "";

    /** A call with one number that the test chooses. */
    interface Asked {
        int of(FreeLances x, int v);
    }

    /** What can be seen of an object; it may be used up by that. */
    interface Probe {
        void look(FreeLances x, List<Integer> seen);
    }

    private static final Probe[] PROBES = {
        Edges::lookAtCounts, Edges::lookAtTowns, Edges::lookAtCompanies, Edges::lookAtLances, Edges::lookAtBonds,
        Edges::lookAtClashes, Edges::lookAtStatutes, Edges::lookAtTape, Edges::lookAtWaiting, Edges::lookAtSheets,
        Edges::lookAtTrace, Edges::lookAtMusters, Edges::lookAtWinter, Edges::lookAtRenewing, Edges::lookAtArrivals,
        Edges::lookAtMonths, Edges::lookAtImage,
    };

    // ---- checks

    static void named(String nameNow) {
        name = nameNow;
    }

    static int asked() {
        return asked;
    }

    static int wrong() {
        return wrong;
    }

    static void due(long got, long want) {
        check(got == want, "answered " + got + ", due is " + want);
    }

    static void check(boolean holds, String what) {
        asked++;
        if (!holds) {
            wrong++;
            System.out.println(name + ", line " + lineOfTest() + ": " + what);
        }
    }

    private static int lineOfTest() {
        return StackWalker.getInstance().walk(all -> all
            .filter(one -> !one.getClassName().startsWith("Edges"))
            .findFirst().map(StackWalker.StackFrame::getLineNumber).orElse(0));
    }

    /** The call answers a finding, which found() tells, and changes nothing else that can be seen. */
    static void refused(int finding, Supplier<FreeLances> land, ToIntFunction<FreeLances> call) {
        FreeLances x = land.get();
        int[] founds = founds(x);
        check(Arrays.equals(founds, new int[6]), "the land itself has found " + Arrays.toString(founds));
        due(call.applyAsInt(x), finding);
        founds[LOW - finding]++;
        check(Arrays.equals(founds(x), founds), "found() tells " + Arrays.toString(founds(x)));
        unchanged(land, call);
    }

    /** The call changes nothing that can be seen but what found() tells. */
    static void unchanged(Supplier<FreeLances> land, ToIntFunction<FreeLances> call) {
        for (int i = 0; i < PROBES.length; i++) {
            FreeLances x = land.get();
            call.applyAsInt(x);
            alike(PROBES[i], i, x, land.get());
        }
    }

    private static void alike(Probe probe, int number, FreeLances x, FreeLances y) {
        List<Integer> got = new ArrayList<>();
        probe.look(x, got);
        List<Integer> want = new ArrayList<>();
        probe.look(y, want);
        int at = 0;
        while (at < got.size() && at < want.size() && got.get(at).equals(want.get(at))) {
            at++;
        }
        check(got.equals(want), "probe " + number + " sees a change at " + at);
    }

    /** All that can be seen of both is the same (but SHEETS, THE TRACE and IMAGES); both are used up by that. */
    static void same(FreeLances x, FreeLances y) {
        Probe[] probes = {
            Edges::lookAtCounts, Edges::lookAtTowns, Edges::lookAtCompanies, Edges::lookAtLances, Edges::lookAtBonds,
            Edges::lookAtClashes, Edges::lookAtStatutes, Edges::lookAtTape, Edges::lookAtWaiting,
            Edges::lookAtMusters, Edges::lookAtWinter, Edges::lookAtArrivals, Edges::lookAtRenewing,
        };
        for (int i = 0; i < probes.length; i++) {
            alike(probes[i], i, x, y);
        }
    }

    static void refused(int finding, ToIntFunction<FreeLances> call) {
        refused(finding, Edges::rich, call);
    }

    /** Just the numbers from least to greatest are taken; one beyond, and the ends of ints, are BEYOND. */
    static void range(int least, int greatest, Supplier<FreeLances> land, Asked call) {
        due(taken(call.of(land.get(), least)), 1);
        due(taken(call.of(land.get(), greatest)), 1);
        for (int v : new int[] {least - 1, greatest + 1, LEAST, GREATEST}) {
            refused(BEYOND, land, x -> call.of(x, v));
        }
    }

    static void range(int least, int greatest, Asked call) {
        range(least, greatest, Edges::rich, call);
    }

    private static int taken(int answer) {
        return answer < LOW ? answer : 1;
    }

    private static int[] founds(FreeLances x) {
        int[] founds = new int[6];
        for (int k = 1; k <= 5; k++) {
            founds[k] = x.found(k);
        }
        return founds;
    }

    // ---- what lands are made with

    static void feed(FreeLances x, String text) {
        for (int i = 0; i < text.length(); i += 8) {
            int n = Math.min(8, text.length() - i);
            long word = 0;
            for (int j = 0; j < n; j++) {
                word |= (text.charAt(i + j) & 255L) << 8 * j;
            }
            x.feed(word, n);
        }
    }

    static int law(FreeLances x, int use, int from, String text) {
        feed(x, text);
        return x.statute(use, from);
    }

    static void fill(FreeLances x, int sheet, int bits, int... numbers) {
        x.sheet(sheet, bits, numbers.length);
        for (int i = 0; i < numbers.length; i++) {
            x.put(sheet, i, numbers[i]);
        }
    }

    static void until(FreeLances x, int day) {
        for (int now = x.count(6); now < day; now = x.count(6)) {
            x.days(Math.min(200, day - now));
        }
    }

    static void lances(FreeLances x, int company, int n) {
        for (int i = 0; i < n; i++) {
            x.lance(company, i, 100);
        }
    }

    /** So many TOWNS with 1000 COIN and BREAD each, and COMPANIES in TOWN 0 with 100 COIN and no BREAD. */
    static FreeLances land(int towns, int companies) {
        FreeLances x = new FreeLances();
        for (int i = 0; i < towns; i++) {
            x.town(1000, 1000);
        }
        for (int i = 0; i < companies; i++) {
            x.company(0, 100, 0);
        }
        return x;
    }

    /** One TOWN without COIN and with much BREAD, and so many COMPANIES without anything in it. */
    static FreeLances poor(int companies) {
        FreeLances x = new FreeLances();
        x.town(0, 99999);
        for (int i = 0; i < companies; i++) {
            x.company(0, 0, 0);
        }
        return x;
    }

    /** BOND 0 of one COMPANY, for TOWN 0, of which as much is OWED as the PAY law says on day 30. */
    static FreeLances owing(String law) {
        FreeLances x = poor(2);
        x.contract(0, 0, 3000, 1);
        law(x, 1, 0, law);
        x.days(30);
        return x;
    }

    /** As many BONDS as there may be: BOND 0 is a CONTRACT, 1 its RENEWAL, 2 a TRUCE, the rest CONTRACTS. */
    static FreeLances bound() {
        FreeLances x = land(2, 2);
        x.lance(0, 1, 100);
        x.take(1, 0);
        x.contract(110, 0, 10, 5);
        x.renew(0, 10, 0);
        x.truce(0, 1, 0, 10);
        for (int i = 3; i < 24; i++) {
            x.contract(1, i, 2 * i, 1);
        }
        return x;
    }

    /**
     * A land of which all kinds of things are seen, on day 30. Four TOWNS (no way leads to TOWN 3); COMPANIES 0
     * and 1 lie in TOWN 0, COMPANY 2 marches from TOWN 2 to TOWN 1; LANCES 0, 1, 3 are FIT, 2 is AWAY (TOWN 1
     * holds it), 4 is DEAD, 5 SICK; BONDS of each KIND, of BOND 0 270 are OWED; SHEET 3 is missing.
     */
    static FreeLances rich() {
        FreeLances x = new FreeLances();
        x.town(5000, 300);
        x.town(900, 200);
        x.town(60, 0);
        x.town(7, 7);
        x.road(0, 1, 3);
        x.road(1, 2, 4);
        x.wall(1, 250, 35);
        x.company(0, 500, 20);
        x.company(0, 90, 0);
        x.company(2, 40, 48);
        int[][] lances = {{0, 11, 120}, {0, 12, 150}, {0, 13, 100}, {1, 11, 180}, {2, 14, 110}, {2, 15, 110}};
        for (int[] lance : lances) {
            x.lance(lance[0], lance[1], lance[2]);
        }
        law(x, 0, 0, "h>90");
        law(x, 3, 40, "c/2");
        fill(x, 0, 8, 11, 12, 13);
        fill(x, 1, 16, 60, 80, 30, 30, 45, 5);
        fill(x, 2, 32, 2, 50, 9, 1, 20, 9);
        x.muster(0, 0);
        x.muster(1, 0);
        x.contract(130, 0, 100, 400);
        x.renew(0, 20, 0);
        x.advance(0, 50);
        x.truce(0, 1, 10, 90);
        x.safe(0, 2, 5, 50, 10);
        x.contract(201, 20, 60, 5);
        x.take(1, 2);
        x.ransom(2, 30);
        x.take(1, 2);
        x.contract(2, 0, 20, 1);
        x.winter(0, 1, 9);
        x.winter(1, 0, 4);
        x.days(20);
        x.tell(8);
        x.image();
        x.days(10);
        x.march(2, 1);
        feed(x, "h+");
        x.tell(-3);
        x.voice(1, 3, 5);
        return x;
    }

    // ---- what can be seen

    private static void lookAtCounts(FreeLances x, List<Integer> seen) {
        for (int what = 0; what <= 13; what++) {
            seen.add(x.count(what));
        }
    }

    private static void lookAtTowns(FreeLances x, List<Integer> seen) {
        int towns = x.count(0);
        for (int town = 0; town < towns; town++) {
            for (int what = 0; what <= 4; what++) {
                seen.add(x.townIs(town, what));
            }
            for (int other = 0; other < town; other++) {
                seen.add(x.far(town, other));
            }
        }
    }

    private static void lookAtCompanies(FreeLances x, List<Integer> seen) {
        int companies = x.count(2);
        for (int company = 0; company < companies; company++) {
            for (int what = 0; what <= 8; what++) {
                seen.add(x.about(company, what));
            }
            seen.add(x.free(company, false));
            seen.add(x.free(company, true));
            seen.add(x.serves(company, 0));
            seen.add(x.serves(company, 110));
        }
    }

    private static void lookAtLances(FreeLances x, List<Integer> seen) {
        int lances = x.count(3);
        for (int lance = 0; lance < lances; lance++) {
            for (int what = 0; what <= 4; what++) {
                seen.add(x.lanceIs(lance, what));
            }
        }
    }

    private static void lookAtBonds(FreeLances x, List<Integer> seen) {
        int bonds = x.count(5);
        for (int bond = 0; bond < bonds; bond++) {
            for (int what = 0; what <= 9; what++) {
                seen.add(x.bondIs(bond, what));
            }
            seen.add(x.as(bond, 0));
        }
    }

    private static void lookAtClashes(FreeLances x, List<Integer> seen) {
        for (int i = 0; i < 10; i++) {
            for (int what = 0; what <= 2; what++) {
                seen.add(x.clash(i, what));
            }
        }
    }

    private static void lookAtStatutes(FreeLances x, List<Integer> seen) {
        for (int use = 0; use <= 3; use++) {
            seen.add(x.force(use, 0));
            seen.add(x.force(use, 3000));
        }
        int statutes = x.count(4);
        for (int statute = 0; statute < statutes; statute++) {
            seen.add(x.says(statute, 95, 7, 1));
            seen.add(x.says(statute, 80, 70, 0));
        }
    }

    /** Where THE TAPE asks for more, "m" makes it a TEXT. */
    private static void lookAtTape(FreeLances x, List<Integer> seen) {
        seen.add(x.count(7));
        seen.add(x.feed('m', 1));
        int statute = x.statute(0, 0);
        seen.add(statute);
        seen.add(x.says(statute, 1000, 20, 3));
    }

    private static void lookAtWaiting(FreeLances x, List<Integer> seen) {
        int waiting = x.count(9);
        seen.add(waiting);
        int rows = x.count(0) + x.count(2);
        for (int i = waiting; i < rows; i++) {
            seen.add(x.tell(0));
        }
        seen.add(x.judge());
    }

    private static void lookAtSheets(FreeLances x, List<Integer> seen) {
        for (int sheet = 0; sheet <= 3; sheet++) {
            for (int i = 0; i < 14; i++) {
                seen.add(x.parts(99999, sheet, i));
            }
            seen.add(x.ask(0, sheet, -1));
            seen.add(x.hiring(sheet, -1));
            seen.add(x.put(sheet, 0, 65536 + 256));
            seen.add(x.parts(99999, sheet, 0));
            for (int other = 0; other <= 3; other++) {
                seen.add(x.move(sheet, 0, other, 0, 0));
            }
        }
    }

    private static void lookAtTrace(FreeLances x, List<Integer> seen) {
        for (int i = 0; i < 12; i++) {
            seen.add(x.trace(i));
        }
    }

    private static void lookAtMusters(FreeLances x, List<Integer> seen) {
        for (int i = 0; i < 5; i++) {
            seen.add(x.shown(i));
        }
        seen.add(x.twice(11, 0, 1));
        seen.add(x.sheet(0, 8, 4));
        for (int i = 0; i < 4; i++) {
            seen.add(x.put(0, i, -1));
        }
        int companies = x.count(2);
        for (int company = 0; company < companies; company++) {
            seen.add(x.muster(company, 0));
        }
    }

    private static void lookAtWinter(FreeLances x, List<Integer> seen) {
        seen.add(x.wintering(-1));
        int companies = x.count(2);
        int towns = x.count(0);
        for (int company = 0; company < companies; company++) {
            for (int town = 0; town < towns; town++) {
                seen.add(x.winter(company, town, 0));
            }
        }
    }

    private static void lookAtRenewing(FreeLances x, List<Integer> seen) {
        int bonds = x.count(5);
        for (int bond = 0; bond < bonds; bond++) {
            seen.add(x.renew(bond, 1, 0));
        }
    }

    private static void lookAtArrivals(FreeLances x, List<Integer> seen) {
        int companies = x.count(2);
        for (int day = 0; day < 6; day++) {
            seen.add(x.days(1));
            for (int company = 0; company < companies; company++) {
                seen.add(x.about(company, 0));
                seen.add(x.about(company, 3));
            }
        }
    }

    private static void lookAtMonths(FreeLances x, List<Integer> seen) {
        for (int month = 0; month < 2; month++) {
            seen.add(x.days(30));
            lookAtTowns(x, seen);
            seen.add(x.count(13));
            seen.add(x.count(11));
        }
    }

    private static void lookAtImage(FreeLances x, List<Integer> seen) {
        seen.add(x.restore());
        lookAtCounts(x, seen);
        lookAtTowns(x, seen);
        seen.add(x.image());
    }
}
