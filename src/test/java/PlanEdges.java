import java.util.Arrays;

/** The edges of promises 36 to 42: walls, asking, parts, wintering, hiring. */
final class PlanEdges extends Edges {
    private PlanEdges() {
    }

    /** rich() with so many numbers, all alike, in SHEET 3. */
    private static FreeLances rows(int numbers, int each) {
        FreeLances x = rich();
        int[] all = new int[numbers];
        Arrays.fill(all, each);
        fill(x, 3, 32, all);
        return x;
    }

    /** rich() with three numbers, of which number i is v, in SHEET 3. */
    private static FreeLances three(int i, int v) {
        FreeLances x = rows(3, 1);
        x.put(3, i, v);
        return x;
    }

    // ---- promise 36: hold

    static void promise36_theTownMustStand() {
        range(0, 3, (x, v) -> x.hold(v, 0, 99, false));
    }

    static void promise36_theCompanyMustStand() {
        range(0, 2, (x, v) -> x.hold(0, v, 99, true));
    }

    static void promise36_gunsAre0To99() {
        range(0, 99, () -> {
            FreeLances x = land(1, 1);
            x.wall(0, 0, 0);
            return x;
        }, (x, v) -> x.hold(0, 0, v, false));
    }

    static void promise36_noneIfItIsNotOnAnyDay() {
        refused(NONE, x -> x.hold(0, 0, 0, false));
        refused(NONE, x -> x.hold(1, 1, 3, false));
        due(rich().hold(1, 0, 4, false), 250);
        due(rich().hold(1, 1, 3, true), 250);
    }

    static void promise36_beyondAheadOfNone() {
        refused(BEYOND, x -> x.hold(4, 0, 0, false));
        refused(BEYOND, x -> x.hold(0, 3, 0, false));
        refused(BEYOND, x -> x.hold(0, 0, -1, false));
    }

    static void promise36_theWallStays() {
        FreeLances x = rich();
        due(x.hold(0, 0, 50, true), 2);
        due(x.townIs(0, 2), 100);
        due(x.hold(0, 0, 50, true), 2);
    }

    // ---- promise 37: ask

    static void promise37_theTownMustStand() {
        range(0, 3, (x, v) -> x.ask(v, 1, -1));
    }

    static void promise37_theSheetIs0To3() {
        range(0, 3, () -> rows(3, 1), (x, v) -> x.ask(0, v, -1));
    }

    static void promise37_noneIfItIsMissing() {
        refused(NONE, x -> x.ask(0, 3, -1));
    }

    static void promise37_itHas3Or6Or9Or12Numbers() {
        for (int numbers = 0; numbers <= 24; numbers++) {
            boolean right = numbers == 3 || numbers == 6 || numbers == 9 || numbers == 12;
            due(rows(numbers, 1).ask(0, 3, 0) == KIND ? 0 : 1, right ? 1 : 0);
        }
        refused(KIND, () -> rows(0, 0), x -> x.ask(0, 3, -1));
        refused(KIND, () -> rows(15, 1), x -> x.ask(0, 3, -1));
    }

    static void promise37_numbersAre0To9999() {
        for (int i = 0; i < 3; i++) {
            int at = i;
            due(three(at, 0).ask(0, 3, 0) == KIND ? 0 : 1, 1);
            due(three(at, 9999).ask(0, 3, 0) == KIND ? 0 : 1, 1);
            for (int v : new int[] {-1, 10000, LEAST, GREATEST}) {
                refused(KIND, () -> three(at, v), x -> x.ask(0, 3, 0));
            }
        }
    }

    static void promise37_theLastNumberIsLookedAtToo() {
        FreeLances x = rows(12, 9999);
        due(x.ask(0, 3, -1), 4 * 9999);
        x.put(3, 11, 10000);
        due(x.ask(0, 3, -1), KIND);
    }

    static void promise37_whatIsMinus1ToTheLastThatAsks() {
        range(-1, 0, () -> rows(3, 1), (x, v) -> x.ask(0, 3, v));
        range(-1, 3, () -> rows(12, 1), (x, v) -> x.ask(0, 3, v));
    }

    static void promise37_findingsInTheirOrder() {
        refused(BEYOND, x -> x.ask(4, 3, -1));
        refused(BEYOND, x -> x.ask(0, 4, -1));
        refused(NONE, x -> x.ask(0, 3, 9));
        refused(KIND, () -> rows(4, 1), x -> x.ask(0, 3, 9));
        refused(KIND, () -> three(2, -1), x -> x.ask(0, 3, -2));
    }

    static void promise37_nothingIsPaid() {
        FreeLances x = rich();
        due(x.ask(0, 1, -1), 105);
        due(x.ask(0, 1, 0), 1);
        due(x.townIs(0, 0), 5000);
    }

    // ---- promise 38: parts

    static void promise38_sumIs0To99999() {
        range(0, 99999, (x, v) -> x.parts(v, 1, 0));
    }

    static void promise38_theSheetIs0To3() {
        range(0, 3, () -> rows(3, 1), (x, v) -> x.parts(5, v, 0));
    }

    static void promise38_noneIfItIsMissing() {
        refused(NONE, x -> x.parts(5, 3, 0));
    }

    static void promise38_numbersAre0To999() {
        due(three(1, 0).parts(10, 3, 1), 0);
        due(three(1, 999).parts(1001, 3, 1), 999);
        for (int v : new int[] {-1, 1000, LEAST, GREATEST}) {
            refused(KIND, () -> three(1, v), x -> x.parts(10, 3, 0));
        }
    }

    static void promise38_kindIfAllAre0() {
        refused(KIND, () -> rows(3, 0), x -> x.parts(10, 3, 0));
        refused(KIND, () -> rows(24, 0), x -> x.parts(0, 3, 0));
        FreeLances x = rows(24, 0);
        x.put(3, 23, 1);
        due(x.parts(10, 3, 23), 10);
        due(x.parts(10, 3, 0), 0);
    }

    static void promise38_kindIfThereAreNoNumbers() {
        refused(KIND, () -> rows(0, 0), x -> x.parts(10, 3, 0));
    }

    static void promise38_iIsThatOfANumber() {
        range(0, 2, () -> rows(3, 1), (x, v) -> x.parts(5, 3, v));
        range(0, 23, () -> rows(24, 1), (x, v) -> x.parts(5, 3, v));
    }

    static void promise38_findingsInTheirOrder() {
        refused(BEYOND, x -> x.parts(-1, 3, 0));
        refused(BEYOND, x -> x.parts(100000, 3, 0));
        refused(BEYOND, x -> x.parts(5, 4, 0));
        refused(NONE, x -> x.parts(5, 3, 9));
        refused(KIND, () -> three(0, 1000), x -> x.parts(5, 3, 9));
        refused(KIND, () -> rows(3, 0), x -> x.parts(5, 3, -1));
    }

    static void promise38_partsTogetherAreTheSum() {
        for (int sum : new int[] {0, 1, 7, 8, 9, 99998, 99999}) {
            FreeLances x = new FreeLances();
            fill(x, 0, 16, 999, 1, 0, 333, 7, 7, 998, 0);
            int all = 0;
            for (int i = 0; i < 8; i++) {
                all += x.parts(sum, 0, i);
            }
            due(all, sum);
        }
    }

    // ---- promise 39: share

    static void promise39_cIs0To99999() {
        range(0, 99999, (x, v) -> x.share(v));
    }

    static void promise39_byShareOnTheDay() {
        FreeLances x = rich();
        until(x, 39);
        due(x.share(99999), 33333);
        until(x, 40);
        due(x.share(99999), 49999);
    }

    // ---- promise 40: winter

    static void promise40_theCompanyMustStand() {
        range(0, 2, (x, v) -> x.winter(v, 0, 1));
    }

    static void promise40_theTownMustStand() {
        range(0, 3, (x, v) -> x.winter(0, v, 1));
    }

    static void promise40_costIs0To9999() {
        range(0, 9999, (x, v) -> x.winter(2, 3, v));
    }

    static void promise40_whatItWas() {
        FreeLances x = land(8, 5);
        due(x.winter(4, 7, 9999), 0);
        due(x.winter(4, 7, 0), 9999);
        due(x.winter(4, 7, 5), 0);
        due(x.winter(4, 6, 5), 0);
        due(x.winter(3, 7, 5), 0);
    }

    // ---- promise 41: wintering

    static void promise41_whatIsMinus1ToTheLastCompany() {
        range(-1, 2, (x, v) -> x.wintering(v));
        range(-1, -1, FreeLances::new, (x, v) -> x.wintering(v));
        range(-1, 4, () -> land(8, 5), (x, v) -> x.wintering(v));
    }

    static void promise41_stateIfThereAreFewerTowns() {
        refused(STATE, () -> land(2, 3), x -> x.wintering(-1));
        refused(STATE, () -> land(2, 3), x -> x.wintering(2));
        refused(STATE, () -> land(4, 5), x -> x.wintering(0));
        due(land(3, 3).wintering(2), 2);
        due(land(5, 5).wintering(4), 4);
    }

    static void promise41_beyondAheadOfState() {
        refused(BEYOND, () -> land(2, 3), x -> x.wintering(3));
        refused(BEYOND, () -> land(2, 3), x -> x.wintering(-2));
    }

    static void promise41_withoutCompaniesItCosts0() {
        due(new FreeLances().wintering(-1), 0);
        due(land(3, 0).wintering(-1), 0);
    }

    static void promise41_asManyTownsAsCompanies() {
        FreeLances x = land(5, 5);
        int[][] costs = {{7, 5, 9, 8, 1}, {9, 4, 1, 3, 8}, {6, 1, 5, 9, 7}, {1, 9, 9, 9, 9}, {9, 9, 9, 2, 9}};
        for (int company = 0; company < 5; company++) {
            for (int town = 0; town < 5; town++) {
                x.winter(company, town, costs[company][town]);
            }
        }
        due(x.wintering(-1), 1 + 1 + 1 + 1 + 2);
        int[] towns = {4, 2, 1, 0, 3};
        for (int company = 0; company < 5; company++) {
            due(x.wintering(company), towns[company]);
        }
    }

    static void promise41_itDoesNotDependOnWhatWasAskedAhead() {
        FreeLances x = land(3, 2);
        x.image();
        x.company(0, 0, 0);
        for (int town = 0; town < 3; town++) {
            x.winter(2, town, 500);
        }
        due(x.wintering(-1), 500);
        x.restore();
        due(x.wintering(-1), 0);
        due(x.wintering(1), 1);
        // As many TOWNS as COMPANIES, once with one more of both.
        x = land(2, 2);
        x.image();
        x.town(0, 0);
        x.company(0, 0, 0);
        for (int town = 0; town < 3; town++) {
            x.winter(2, town, 500);
        }
        due(x.wintering(-1), 500);
        x.restore();
        due(x.wintering(-1), 0);
    }

    // ---- promise 42: hiring

    static void promise42_theSheetIs0To3() {
        for (int sheet : new int[] {-1, 4, LEAST, GREATEST}) {
            refused(BEYOND, x -> x.hiring(sheet, -1));
        }
        due(rows(3, 0).hiring(3, -1), 0);
        FreeLances x = rich();
        x.sheet(0, 8, 3);
        due(x.hiring(0, -1), 0);
    }

    static void promise42_noneIfItIsMissing() {
        refused(NONE, x -> x.hiring(3, -1));
    }

    static void promise42_itHas3Or6Or9Or12Or15Numbers() {
        for (int numbers = 0; numbers <= 24; numbers++) {
            boolean right = numbers >= 3 && numbers <= 15 && numbers % 3 == 0;
            due(rows(numbers, 1).hiring(3, 0) == KIND ? 0 : 1, right ? 1 : 0);
        }
        refused(KIND, () -> rows(0, 0), x -> x.hiring(3, -1));
        refused(KIND, () -> rows(18, 1), x -> x.hiring(3, -1));
    }

    static void promise42_numbersAre0To9999() {
        for (int i = 0; i < 3; i++) {
            int at = i;
            due(three(at, 0).hiring(3, 0) == KIND ? 0 : 1, 1);
            due(three(at, 9999).hiring(3, 0) == KIND ? 0 : 1, 1);
            for (int v : new int[] {-1, 10000, LEAST, GREATEST}) {
                refused(KIND, () -> three(at, v), x -> x.hiring(3, 0));
            }
        }
    }

    static void promise42_theLastNumberIsLookedAtToo() {
        FreeLances x = rows(15, 9999);
        due(x.hiring(3, -1), 5 * 9999);
        x.put(3, 14, 10000);
        due(x.hiring(3, -1), KIND);
    }

    static void promise42_whatIsMinus1ToTheLastSeason() {
        // SEASONS in which none is hired answer -1, so that no answer is as low as a finding.
        range(-1, 0, () -> rows(3, 1), (x, v) -> x.hiring(3, v));
        range(-1, 4, () -> rows(15, 1), (x, v) -> x.hiring(3, v));
    }

    static void promise42_findingsInTheirOrder() {
        refused(BEYOND, x -> x.hiring(4, 9));
        refused(NONE, x -> x.hiring(3, 9));
        refused(KIND, () -> rows(4, 1), x -> x.hiring(3, 9));
        refused(KIND, () -> three(2, -1), x -> x.hiring(3, -2));
    }

    static void promise42_onlyFitLancesAreHired() {
        // COMPANY 0 of rich() has 2 FIT LANCES and one that is AWAY, COMPANY 2 one that is SICK.
        FreeLances x = rich();
        fill(x, 3, 32, 3, 999, 1);
        due(x.hiring(3, -1), 999);
        fill(x, 3, 32, 2, 999, 1);
        due(x.hiring(3, -1), 12);
        due(x.hiring(3, 0), 0);
        fill(x, 3, 32, 1, 999, 1);
        due(x.hiring(3, -1), 11);
        due(x.hiring(3, 0), 1);
    }

    static void promise42_itDoesNotDependOnWhatWasAskedAhead() {
        FreeLances x = rich();
        fill(x, 3, 32, 9, 500, 1, 9, 500, 1, 9, 500, 1, 9, 500, 1, 9, 500, 1);
        due(x.hiring(3, -1), 2500);
        fill(x, 3, 32, 9, 70, 1);
        due(x.hiring(3, -1), 70);
        fill(x, 3, 32, 9, 70, 1, 2, 99, 1);
        due(x.hiring(3, -1), 70 + 12);
        due(x.hiring(3, 0), -1);
        due(x.hiring(3, 1), 0);
    }

    static void promise42_withoutCompaniesNoneIsHired() {
        FreeLances x = new FreeLances();
        fill(x, 0, 32, 1, 7, 1, 1, 8, 1);
        due(x.hiring(0, -1), 15);
        due(x.hiring(0, 0), -1);
        due(x.hiring(0, 1), -1);
    }
}
