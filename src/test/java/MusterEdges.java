/** The edges of promises 33 to 35: MUSTERS, and MARKS that are shown twice. */
final class MusterEdges extends Edges {
    private MusterEdges() {
    }

    // ---- promise 33: muster

    /** rich() with one number in SHEET 3. */
    private static FreeLances sheeted(int bits, int v) {
        FreeLances x = rich();
        fill(x, 3, bits, v);
        return x;
    }

    static void promise33_theCompanyMustStand() {
        range(0, 1, () -> {
            FreeLances x = land(1, 2);
            x.sheet(0, 8, 0);
            return x;
        }, (x, v) -> x.muster(v, 0));
    }

    static void promise33_theSheetIs0To3() {
        range(0, 3, () -> {
            FreeLances x = land(1, 1);
            for (int sheet = 0; sheet < 4; sheet++) {
                x.sheet(sheet, 8, 1);
            }
            return x;
        }, (x, v) -> x.muster(0, v));
    }

    static void promise33_noneIfTheSheetIsMissing() {
        refused(NONE, x -> x.muster(0, 3));
    }

    static void promise33_stateIfTheCompanyMarches() {
        refused(STATE, x -> x.muster(2, 0));
    }

    static void promise33_kindIfThereAreMoreThan12() {
        FreeLances x = rich();
        x.sheet(3, 8, 12);
        due(x.muster(0, 3), 0);
        refused(KIND, () -> {
            FreeLances y = rich();
            y.sheet(3, 8, 13);
            return y;
        }, y -> y.muster(0, 3));
    }

    static void promise33_aSheetWithoutNumbersIsAMuster() {
        FreeLances x = rich();
        x.sheet(3, 8, 0);
        due(x.muster(0, 3), 0);
        due(x.about(0, 7), 0);
        due(x.about(0, 8), 30);
        due(x.shown(0), NONE);
    }

    static void promise33_numbersAreMinus1To99() {
        due(sheeted(8, 99).muster(0, 3), 0);
        due(sheeted(8, -1).muster(0, 3), 1);
        due(sheeted(8, 0).muster(0, 3), 0);
        for (int v : new int[] {100, 127, -2, -128}) {
            refused(KIND, () -> sheeted(8, v), x -> x.muster(0, 3));
        }
        for (int v : new int[] {100, -2, LEAST, GREATEST}) {
            refused(KIND, () -> sheeted(32, v), x -> x.muster(0, 3));
        }
    }

    static void promise33_theLastNumberIsLookedAtToo() {
        FreeLances x = land(1, 1);
        fill(x, 0, 8, 1, 1, 1, 1, 1, 1, 1, 1, 1, 1, 1, 99);
        due(x.muster(0, 0), 0);
        x.put(0, 11, 100);
        due(x.muster(0, 0), KIND);
        x.put(0, 11, -2);
        due(x.muster(0, 0), KIND);
    }

    static void promise33_beyondAheadOfNoneAheadOfStateAheadOfKind() {
        refused(BEYOND, x -> x.muster(3, 3));
        refused(BEYOND, x -> x.muster(2, 4));
        refused(NONE, x -> x.muster(2, 3));
        refused(STATE, () -> sheeted(8, 100), x -> x.muster(2, 3));
    }

    static void promise33_theDayAndTheCountAreTold() {
        FreeLances x = rich();
        due(x.muster(0, 0), 2);
        due(x.about(0, 7), 2);
        due(x.about(0, 8), 30);
        due(x.about(1, 7), 1);
        due(x.about(1, 8), 0);
    }

    // ---- promise 34: twice

    static void promise34_markIs0To99() {
        range(0, 99, (x, v) -> x.twice(v, 0, 1));
    }

    static void promise34_bothCompaniesMustStand() {
        for (int company : new int[] {-1, 3, LEAST, GREATEST}) {
            refused(BEYOND, x -> x.twice(11, company, 0));
            refused(BEYOND, x -> x.twice(11, 0, company));
        }
        due(rich().twice(11, 2, 0), 0);
        due(rich().twice(11, 0, 2), 0);
    }

    static void promise34_bothMustNotBeOne() {
        refused(BEYOND, x -> x.twice(11, 0, 0));
        refused(BEYOND, x -> x.twice(0, 2, 2));
    }

    static void promise34_0IfItDoesNotStandInTwo() {
        FreeLances x = rich();
        due(x.twice(10, 0, 1), 0);
        due(x.twice(11, 0, 2), 0);
        due(x.twice(11, 0, 1), 1);
        due(x.twice(13, 1, 0), 1);
    }

    static void promise34_aMarkThatNobodyHasStandsThereToo() {
        FreeLances x = land(1, 2);
        fill(x, 0, 8, 0, 99);
        due(x.muster(0, 0), 0);
        due(x.muster(1, 0), 0);
        due(x.twice(0, 0, 1), 1);
        due(x.twice(99, 0, 1), 1);
        due(x.twice(1, 0, 1), 0);
    }

    static void promise34_onlyTheLatestMusterCounts() {
        FreeLances x = rich();
        x.sheet(3, 8, 1);
        x.muster(1, 3);
        due(x.twice(11, 0, 1), 0);
        due(x.shown(0), NONE);
    }

    // ---- promise 35: shown

    static void promise35_iIsNotBelow0() {
        refused(BEYOND, x -> x.shown(-1));
        refused(BEYOND, x -> x.shown(LEAST));
    }

    static void promise35_theLeastFirst() {
        FreeLances x = rich();
        for (int i = 0; i < 3; i++) {
            due(x.shown(i), 11 + i);
        }
        x = land(1, 2);
        fill(x, 0, 8, 99, 50, 0);
        fill(x, 1, 8, 50, 99, 0, 7);
        x.muster(0, 0);
        x.muster(1, 1);
        due(x.shown(0), 0);
        due(x.shown(1), 50);
        due(x.shown(2), 99);
        due(x.shown(3), NONE);
    }

    static void promise35_noneBehindTheLast() {
        refused(NONE, x -> x.shown(3));
        refused(NONE, x -> x.shown(GREATEST));
        refused(NONE, FreeLances::new, x -> x.shown(0));
    }

    static void promise35_aMarkInThreeMustersIsToldOnce() {
        FreeLances x = land(1, 3);
        fill(x, 0, 8, 4, 4);
        x.muster(0, 0);
        due(x.shown(0), NONE);
        x.muster(1, 0);
        x.muster(2, 0);
        due(x.shown(0), 4);
        due(x.shown(1), NONE);
    }
}
