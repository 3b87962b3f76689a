/** The edges of promises 20 to 27: BONDS of all KINDS. */
final class BondEdges extends Edges {
    private BondEdges() {
    }

    // ---- promise 20: contract

    static void promise20_theCompanyMustStand() {
        due(rich().contract(100, 0, 1, 1), 8);
        due(rich().contract(102, 0, 1, 1), 8);
        refused(BEYOND, x -> x.contract(103, 0, 1, 1));
        refused(BEYOND, x -> x.contract(109, 0, 1, 1));
        refused(BEYOND, () -> land(2, 0), x -> x.contract(0, 0, 1, 1));
    }

    static void promise20_theTownMustStand() {
        due(rich().contract(0, 0, 1, 1), 8);
        due(rich().contract(300, 0, 1, 1), 8);
        refused(BEYOND, x -> x.contract(400, 0, 1, 1));
        refused(BEYOND, x -> x.contract(1000, 0, 1, 1));
        refused(BEYOND, FreeLances::new, x -> x.contract(0, 0, 1, 1));
    }

    static void promise20_partiesAreNotBelow0() {
        for (int parties : new int[] {-1, -10, -100, -111, LEAST}) {
            refused(BEYOND, x -> x.contract(parties, 0, 1, 1));
        }
    }

    static void promise20_partiesMayBeAnyInt() {
        // 2147483647 ends as COMPANY 7, 2147483600 as COMPANY 0 and nobody.
        refused(BEYOND, x -> x.contract(GREATEST, 0, 1, 1));
        refused(BEYOND, x -> x.contract(2147483600, 0, 1, 1));
    }

    static void promise20_theFoeMustStandOrBeNobody() {
        FreeLances x = rich();
        due(x.contract(100, 0, 1, 1), 8);
        due(x.bondIs(8, 5), -1);
        due(x.contract(110, 0, 1, 1), 9);
        due(x.bondIs(9, 5), 0);
        due(x.contract(140, 0, 1, 1), 10);
        due(x.bondIs(10, 5), 3);
        refused(BEYOND, y -> y.contract(150, 0, 1, 1));
        refused(BEYOND, y -> y.contract(190, 0, 1, 1));
    }

    static void promise20_ofEightTownsAllMayBeFoes() {
        FreeLances x = land(8, 5);
        due(x.contract(784, 0, 1, 1), BEYOND);
        due(x.contract(774, 0, 1, 1), 0);
        int[] seven = {1, 4, 0, 1, 7, 6};
        for (int what = 0; what < seven.length; what++) {
            due(x.bondIs(0, what), seven[what]);
        }
        due(x.contract(84, 0, 1, 1), 1);
        due(x.bondIs(1, 5), 7);
        due(x.contract(94, 0, 1, 1), BEYOND);
        due(x.contract(85, 0, 1, 1), BEYOND);
        due(x.contract(804, 0, 1, 1), BEYOND);
    }

    static void promise20_foeAndTownMustNotBeOne() {
        refused(BEYOND, x -> x.contract(10, 0, 1, 1));
        refused(BEYOND, x -> x.contract(340, 0, 1, 1));
    }

    static void promise20_daysAre0To3000() {
        range(0, 3000, (x, v) -> x.contract(0, v, 3000, 1));
        range(0, 3000, (x, v) -> x.contract(0, 0, v, 1));
    }

    static void promise20_firstIsNotBehindLast() {
        due(rich().contract(0, 7, 7, 1), 8);
        refused(BEYOND, x -> x.contract(0, 8, 7, 1));
        refused(BEYOND, x -> x.contract(0, 3000, 0, 1));
    }

    static void promise20_payIs0To999() {
        range(0, 999, (x, v) -> x.contract(0, 0, 1, v));
        FreeLances x = rich();
        due(x.as(x.contract(0, 0, 1, 999), 1), 999);
        due(x.as(x.contract(0, 0, 1, 0), 1), 0);
    }

    static void promise20_fullWith24() {
        FreeLances x = land(1, 1);
        for (int i = 0; i < 24; i++) {
            due(x.contract(0, i, i, 1), i);
        }
        refused(FULL, Edges::bound, y -> y.contract(0, 0, 1, 1));
    }

    static void promise20_beyondAheadOfFull() {
        refused(BEYOND, Edges::bound, x -> x.contract(2, 0, 1, 1));
        refused(BEYOND, Edges::bound, x -> x.contract(10, 0, 1, 1));
        refused(BEYOND, Edges::bound, x -> x.contract(0, 2, 1, 1));
        refused(BEYOND, Edges::bound, x -> x.contract(0, 0, 1, 1000));
    }

    // ---- promise 21: renew

    private static FreeLances until2990() {
        FreeLances x = land(2, 2);
        x.contract(0, 0, 2990, 1);
        x.truce(0, 1, 0, 2990);
        return x;
    }

    static void promise21_theBondMustStand() {
        for (int bond : new int[] {-1, 8, LEAST, GREATEST}) {
            refused(BEYOND, x -> x.renew(bond, 1, 0));
        }
        due(rich().renew(1, 1, 0), 8);
        due(rich().renew(7, 1, 0), 8);
    }

    static void promise21_daysAre1To400() {
        range(1, 400, (x, v) -> x.renew(1, v, 0));
    }

    static void promise21_wishIs0Or1() {
        range(0, 1, (x, v) -> x.renew(1, 5, v));
    }

    static void promise21_beyond3000() {
        FreeLances x = until2990();
        due(x.renew(0, 10, 0), 2);
        due(x.bondIs(2, 2), 2991);
        due(x.bondIs(2, 3), 3000);
        due(x.renew(2, 1, 0), BEYOND);
        refused(BEYOND, BondEdges::until2990, y -> y.renew(0, 11, 0));
        refused(BEYOND, BondEdges::until2990, y -> y.renew(0, 400, 1));
    }

    static void promise21_kindIfItIsNoContract() {
        for (int bond : new int[] {2, 3, 4, 6}) {
            refused(KIND, x -> x.renew(bond, 1, 0));
        }
    }

    static void promise21_beyondAheadOfKind() {
        refused(BEYOND, x -> x.renew(3, 0, 0));
        refused(BEYOND, x -> x.renew(3, 1, 2));
        refused(BEYOND, BondEdges::until2990, x -> x.renew(1, 11, 0));
        refused(KIND, BondEdges::until2990, x -> x.renew(1, 10, 0));
    }

    static void promise21_stateIfItWasRenewed() {
        refused(STATE, x -> x.renew(0, 1, 0));
        refused(STATE, x -> x.renew(0, 400, 1));
    }

    static void promise21_beyondAheadOfState() {
        refused(BEYOND, x -> x.renew(0, 401, 0));
        refused(BEYOND, x -> x.renew(0, 1, -1));
        refused(BEYOND, () -> {
            FreeLances x = until2990();
            x.renew(0, 5, 0);
            return x;
        }, x -> x.renew(0, 11, 0));
    }

    static void promise21_fullIsAskedLast() {
        refused(FULL, Edges::bound, x -> x.renew(1, 1, 0));
        refused(STATE, Edges::bound, x -> x.renew(0, 1, 0));
        refused(KIND, Edges::bound, x -> x.renew(2, 1, 0));
        refused(BEYOND, Edges::bound, x -> x.renew(24, 1, 0));
    }

    static void promise21_whatIsOverMayBeRenewed() {
        FreeLances x = land(1, 1);
        x.contract(0, 0, 5, 1);
        until(x, 50);
        due(x.renew(0, 10, 0), 1);
        due(x.bondIs(1, 2), 6);
        due(x.bondIs(1, 3), 15);
    }

    // ---- promise 22: advance

    private static FreeLances treasury(int coin) {
        FreeLances x = new FreeLances();
        x.town(coin, 0);
        x.company(0, 0, 0);
        x.contract(0, 0, 10, 1);
        x.renew(0, 10, 0);
        return x;
    }

    static void promise22_theBondMustStand() {
        range(0, 1, () -> treasury(9), (x, v) -> x.advance(v, 1));
    }

    static void promise22_sumIs1To9999() {
        range(1, 9999, () -> treasury(9999), (x, v) -> x.advance(0, v));
    }

    static void promise22_kindIfItIsNoContract() {
        for (int bond : new int[] {2, 3, 4, 6}) {
            refused(KIND, x -> x.advance(bond, 1));
        }
        due(treasury(9).advance(1, 9), 2);
    }

    static void promise22_noneIfTheTownHasLess() {
        FreeLances x = treasury(50);
        due(x.advance(0, 50), 2);
        due(x.townIs(0, 0), 0);
        due(x.about(0, 1), 50);
        due(x.bondIs(0, 9), 50);
        due(x.bondIs(1, 9), 0);
        due(x.advance(0, 1), NONE);
        refused(NONE, () -> treasury(50), y -> y.advance(0, 51));
        refused(NONE, () -> treasury(0), y -> y.advance(1, 1));
    }

    static void promise22_beyondAheadOfKindAheadOfNone() {
        refused(BEYOND, x -> x.advance(3, 0));
        refused(BEYOND, x -> x.advance(3, 10000));
        refused(KIND, x -> x.advance(2, 9999));
        refused(BEYOND, () -> treasury(5), x -> x.advance(0, 10000));
    }

    static void promise22_fullIsAskedLast() {
        refused(FULL, Edges::bound, x -> x.advance(0, 1000));
        refused(NONE, Edges::bound, x -> x.advance(0, 1001));
        refused(KIND, Edges::bound, x -> x.advance(2, 1001));
        refused(BEYOND, Edges::bound, x -> x.advance(0, 0));
    }

    // ---- promise 23: truce

    static void promise23_bothCompaniesMustStand() {
        due(rich().truce(0, 2, 0, 1), 8);
        due(rich().truce(2, 0, 0, 1), 8);
        for (int company : new int[] {-1, 3, LEAST, GREATEST}) {
            refused(BEYOND, x -> x.truce(company, 0, 0, 1));
            refused(BEYOND, x -> x.truce(0, company, 0, 1));
        }
    }

    static void promise23_bothMustNotBeOne() {
        refused(BEYOND, x -> x.truce(0, 0, 0, 1));
        refused(BEYOND, x -> x.truce(2, 2, 0, 1));
    }

    static void promise23_daysAre0To3000() {
        range(0, 3000, (x, v) -> x.truce(0, 1, v, 3000));
        range(0, 3000, (x, v) -> x.truce(0, 1, 0, v));
        due(rich().truce(0, 1, 5, 5), 8);
        refused(BEYOND, x -> x.truce(0, 1, 6, 5));
    }

    static void promise23_full() {
        refused(FULL, Edges::bound, x -> x.truce(1, 0, 0, 1));
    }

    static void promise23_beyondAheadOfFull() {
        refused(BEYOND, Edges::bound, x -> x.truce(0, 0, 0, 1));
        refused(BEYOND, Edges::bound, x -> x.truce(0, 2, 0, 1));
        refused(BEYOND, Edges::bound, x -> x.truce(0, 1, 1, 0));
    }

    // ---- promise 24: safe

    static void promise24_theCompanyMustStand() {
        range(0, 2, (x, v) -> x.safe(v, 0, 0, 1, 1));
    }

    static void promise24_theTownMustStand() {
        range(0, 3, (x, v) -> x.safe(0, v, 0, 1, 0));
    }

    static void promise24_daysAre0To3000() {
        range(0, 3000, (x, v) -> x.safe(0, 0, v, 3000, 1));
        range(0, 3000, (x, v) -> x.safe(0, 0, 0, v, 1));
        due(rich().safe(0, 0, 5, 5, 1), 8);
        refused(BEYOND, x -> x.safe(0, 0, 6, 5, 1));
    }

    static void promise24_sumIs0To9999() {
        range(0, 9999, () -> treasury(9999), (x, v) -> x.safe(0, 0, 0, 1, v));
    }

    static void promise24_noneIfTheTownHasLess() {
        FreeLances x = treasury(50);
        due(x.safe(0, 0, 0, 1, 50), 2);
        due(x.townIs(0, 0), 0);
        due(x.about(0, 1), 50);
        due(x.as(2, 6), 50);
        due(x.safe(0, 0, 0, 1, 0), 3);
        refused(NONE, () -> treasury(50), y -> y.safe(0, 0, 0, 1, 51));
        refused(NONE, () -> treasury(0), y -> y.safe(0, 0, 0, 1, 1));
    }

    static void promise24_beyondAheadOfNoneAheadOfFull() {
        refused(BEYOND, () -> treasury(5), x -> x.safe(1, 0, 0, 1, 6));
        refused(BEYOND, () -> treasury(5), x -> x.safe(0, 0, 1, 0, 6));
        refused(BEYOND, () -> treasury(5), x -> x.safe(0, 0, 0, 1, 10000));
        refused(NONE, Edges::bound, x -> x.safe(0, 0, 0, 1, 1001));
        refused(FULL, Edges::bound, x -> x.safe(0, 0, 0, 1, 1000));
        refused(BEYOND, Edges::bound, x -> x.safe(0, 0, 0, 1, -1));
    }

    // ---- promise 25: ransom

    /** TOWN 1 holds LANCE 0 of COMPANY 0, which has so much COIN; LANCE 1 is FIT. */
    private static FreeLances held(int coin) {
        FreeLances x = land(2, 0);
        x.company(0, coin, 0);
        lances(x, 0, 2);
        x.take(1, 0);
        return x;
    }

    static void promise25_theLanceMustStand() {
        range(0, 0, () -> {
            FreeLances x = land(2, 1);
            x.lance(0, 0, 100);
            x.take(1, 0);
            return x;
        }, (x, v) -> x.ransom(v, 1));
        refused(BEYOND, () -> held(5), x -> x.ransom(2, 0));
    }

    static void promise25_sumIs0To9999() {
        range(0, 9999, () -> held(9999), (x, v) -> x.ransom(0, v));
    }

    static void promise25_stateIfNoTownHoldsIt() {
        refused(STATE, () -> held(5), x -> x.ransom(1, 0));
        refused(STATE, x -> x.ransom(4, 0));
        refused(STATE, x -> x.ransom(5, 0));
        FreeLances x = held(5);
        due(x.ransom(0, 1), 0);
        due(x.ransom(0, 1), STATE);
    }

    static void promise25_town0MayHoldIt() {
        FreeLances x = land(2, 0);
        x.company(1, 9, 0);
        x.lance(0, 0, 100);
        x.take(0, 0);
        due(x.ransom(0, 9), 0);
        due(x.bondIs(0, 4), 0);
        due(x.townIs(0, 0), 1009);
    }

    static void promise25_noneIfTheCompanyHasLess() {
        FreeLances x = held(50);
        due(x.ransom(0, 50), 0);
        due(x.about(0, 1), 0);
        due(x.townIs(1, 0), 1050);
        due(x.townIs(0, 0), 1000);
        refused(NONE, () -> held(50), y -> y.ransom(0, 51));
        refused(NONE, () -> held(0), y -> y.ransom(0, 1));
        due(held(0).ransom(0, 0), 0);
    }

    static void promise25_beyondAheadOfStateAheadOfNoneAheadOfFull() {
        refused(BEYOND, () -> held(5), x -> x.ransom(1, -1));
        refused(BEYOND, () -> held(5), x -> x.ransom(0, 10000));
        refused(STATE, () -> held(5), x -> x.ransom(1, 6));
        refused(NONE, Edges::bound, x -> x.ransom(0, 101));
        refused(FULL, Edges::bound, x -> x.ransom(0, 100));
        refused(BEYOND, Edges::bound, x -> x.ransom(1, 0));
    }

    static void promise25_itIsFitThenEvenIfItWasSick() {
        FreeLances x = new FreeLances();
        x.town(0, 0);
        x.town(0, 0);
        x.company(0, 9, 0);
        x.lance(0, 0, 100);
        x.days(3);
        due(x.lanceIs(0, 3), 1);
        x.take(1, 0);
        due(x.ransom(0, 9), 0);
        due(x.lanceIs(0, 3), 0);
        due(x.lanceIs(0, 4), -1);
        due(x.about(0, 4), 1);
        due(x.about(0, 5), 0);
    }

    // ---- promise 26: as

    static void promise26_theBondMustStand() {
        range(0, 7, (x, v) -> x.as(v, 0));
    }

    static void promise26_kindIs0To6() {
        for (int kind : new int[] {-1, 7, LEAST, GREATEST}) {
            refused(BEYOND, x -> x.as(0, kind));
        }
        due(rich().as(0, 0), 400);
        due(rich().as(4, 6), 10);
    }

    static void promise26_kindIfItIsNotOfThatNorUnderIt() {
        refused(KIND, x -> x.as(0, 2));
        refused(KIND, x -> x.as(1, 3));
        refused(KIND, x -> x.as(2, 1));
        refused(KIND, x -> x.as(6, 6));
        FreeLances x = rich();
        due(x.as(1, 2), 400);
        due(x.as(1, 1), 400);
        due(x.as(1, 0), 400);
        due(x.as(2, 3), 50);
        due(x.as(3, 4), 0);
        due(x.as(6, 5), 30);
    }

    static void promise26_beyondAheadOfKind() {
        refused(BEYOND, x -> x.as(8, 2));
        refused(BEYOND, x -> x.as(2, 7));
    }

    // ---- promise 27: bondIs

    static void promise27_theBondMustStand() {
        range(0, 7, (x, v) -> x.bondIs(v, 0));
        refused(BEYOND, () -> land(1, 1), x -> x.bondIs(0, 0));
    }

    static void promise27_whatIs0To9() {
        range(0, 9, (x, v) -> x.bondIs(0, v));
    }

    static void promise27_eachKindHasItsOwn() {
        int[][] due = {
            {1, 0, 0, 100, 1, 2, -1, 270, 30, 0},
            {2, 0, 101, 120, 1, 2, 0, 0, -1, 0},
            {3, 0, -1, -1, 1, -1, 0, 0, -1, 0},
            {4, 0, 10, 90, -1, -1, 1, 0, -1, 0},
            {6, 0, 5, 50, 2, -1, -1, 0, -1, 0},
            {1, 1, 20, 60, 2, -1, -1, 0, -1, 0},
            {5, 0, -1, -1, 1, -1, 2, 0, -1, 0},
            {1, 2, 0, 20, 0, -1, -1, 0, -1, 0},
        };
        FreeLances x = rich();
        for (int bond = 0; bond < due.length; bond++) {
            for (int what = 0; what < due[bond].length; what++) {
                due(x.bondIs(bond, what), due[bond][what]);
            }
        }
    }

    static void promise27_anAdvanceOnARenewalBelongsToIt() {
        FreeLances x = treasury(9);
        x.advance(1, 4);
        due(x.bondIs(2, 6), 1);
        due(x.bondIs(2, 4), 0);
        due(x.bondIs(1, 9), 4);
        due(x.bondIs(0, 9), 0);
    }
}
