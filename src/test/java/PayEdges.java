/** The edges of promises 28 to 32: what is OWED, who is served, CLASHES, and the first free day. */
final class PayEdges extends Edges {
    private PayEdges() {
    }

    /** Of BOND 0 10000 are OWED, and TOWN 0 has so much COIN (10000 at most). */
    private static FreeLances debt(int coin) {
        FreeLances x = owing("9999+1");
        if (coin > 0) {
            x.company(0, 9999, 0);
            x.company(0, 9999, 0);
            x.buy(2, Math.min(9999, coin));
        }
        if (coin > 9999) {
            x.buy(3, coin - 9999);
        }
        return x;
    }

    // ---- promise 28: stop

    static void promise28_theBondMustStand() {
        for (int bond : new int[] {-1, 1, LEAST, GREATEST}) {
            refused(BEYOND, () -> debt(0), x -> x.stop(bond, 1));
        }
        due(debt(0).stop(0, 1), 9999);
    }

    static void promise28_nIs1To9999() {
        range(1, 9999, () -> debt(0), (x, v) -> x.stop(0, v));
        due(debt(0).stop(0, 9999), 1);
    }

    static void promise28_kindIfItIsNoContract() {
        for (int bond : new int[] {2, 3, 4, 6}) {
            refused(KIND, x -> x.stop(bond, 1));
        }
    }

    static void promise28_stateIfLessIsOwed() {
        FreeLances x = rich();
        due(x.stop(0, 269), 1);
        due(x.bondIs(0, 8), 30);
        due(x.stop(0, 2), STATE);
        due(x.stop(0, 1), 0);
        due(x.bondIs(0, 8), -1);
        due(x.stop(0, 1), STATE);
        refused(STATE, y -> y.stop(0, 271));
        refused(STATE, y -> y.stop(1, 1));
    }

    static void promise28_beyondAheadOfKindAheadOfState() {
        refused(BEYOND, x -> x.stop(3, 0));
        refused(BEYOND, x -> x.stop(0, 10000));
        refused(KIND, x -> x.stop(3, 9999));
    }

    static void promise28_noCoinIsMoved() {
        FreeLances x = debt(50);
        x.stop(0, 100);
        due(x.townIs(0, 0), 50);
        due(x.about(0, 1), 0);
    }

    // ---- promise 29: pay

    static void promise29_theBondMustStand() {
        for (int bond : new int[] {-1, 1, LEAST, GREATEST}) {
            refused(BEYOND, () -> debt(10), x -> x.pay(bond, 1));
        }
        due(debt(10).pay(0, 1), 9999);
    }

    static void promise29_nIs1To9999() {
        range(1, 9999, () -> debt(10000), (x, v) -> x.pay(0, v));
        FreeLances x = debt(10000);
        due(x.pay(0, 9999), 1);
        due(x.townIs(0, 0), 1);
        due(x.about(0, 1), 9999);
        due(x.pay(0, 1), 0);
        due(x.bondIs(0, 8), -1);
        due(x.about(0, 1), 10000);
    }

    static void promise29_kindIfItIsNoContract() {
        for (int bond : new int[] {2, 3, 4, 6}) {
            refused(KIND, x -> x.pay(bond, 1));
        }
    }

    /** Of BOND 0 20 are OWED, and TOWN 0 has more. */
    private static FreeLances small() {
        FreeLances x = debt(50);
        x.stop(0, 9980);
        return x;
    }

    static void promise29_stateIfLessIsOwed() {
        due(small().pay(0, 20), 0);
        due(small().pay(0, 19), 1);
        refused(STATE, PayEdges::small, x -> x.pay(0, 21));
        refused(STATE, x -> x.pay(1, 1));
    }

    static void promise29_noneIfTheTownHasLessCoin() {
        FreeLances x = debt(50);
        due(x.pay(0, 50), 9950);
        due(x.townIs(0, 0), 0);
        due(x.about(0, 1), 50);
        due(x.bondIs(0, 8), 30);
        refused(NONE, () -> debt(50), y -> y.pay(0, 51));
        refused(NONE, () -> debt(0), y -> y.pay(0, 1));
    }

    static void promise29_beyondAheadOfKindAheadOfStateAheadOfNone() {
        refused(BEYOND, x -> x.pay(3, 0));
        refused(BEYOND, () -> debt(0), x -> x.pay(0, 10000));
        refused(KIND, x -> x.pay(3, 9999));
        refused(STATE, x -> x.pay(0, 271));
        refused(NONE, x -> x.pay(0, 270));
    }

    // ---- promise 30: serves

    static void promise30_theCompanyMustStand() {
        range(0, 2, (x, v) -> x.serves(v, 20));
    }

    static void promise30_dayIs0To3000() {
        range(0, 3000, () -> {
            FreeLances x = land(1, 1);
            x.contract(0, 0, 3000, 1);
            return x;
        }, (x, v) -> x.serves(0, v));
    }

    static void promise30_noneIfItServesNobody() {
        FreeLances x = rich();
        due(x.serves(0, 0), 1);
        due(x.serves(0, 100), 1);
        due(x.serves(0, 120), 1);
        due(x.serves(1, 20), 2);
        due(x.serves(1, 60), 2);
        refused(NONE, y -> y.serves(0, 121));
        refused(NONE, y -> y.serves(1, 19));
        refused(NONE, y -> y.serves(1, 61));
        refused(NONE, y -> y.serves(0, 3000));
    }

    static void promise30_beyondAheadOfNone() {
        refused(BEYOND, x -> x.serves(3, 3000));
        refused(BEYOND, x -> x.serves(0, 3001));
    }

    static void promise30_otherBondsDoNotCount() {
        FreeLances x = land(2, 2);
        x.safe(0, 1, 0, 3000, 0);
        x.truce(0, 1, 0, 3000);
        due(x.serves(0, 5), NONE);
        due(x.serves(1, 5), NONE);
        due(x.free(0, false), 0);
        due(x.free(0, true), 0);
    }

    // ---- promise 31: clash

    static void promise31_iIsNotBelow0() {
        refused(BEYOND, x -> x.clash(-1, 0));
        refused(BEYOND, x -> x.clash(LEAST, 0));
        due(rich().clash(0, 0), 0);
    }

    static void promise31_whatIs0To2() {
        range(0, 2, (x, v) -> x.clash(0, v));
    }

    static void promise31_noneBehindTheLast() {
        // BOND 0 is against TOWN 2: the TRUCE with COMPANY 1, which serves it from 20 on, and the SAFE.
        FreeLances x = rich();
        due(x.count(12), 2);
        int[][] due = {{0, 3, 20}, {0, 4, 5}};
        for (int i = 0; i < due.length; i++) {
            for (int what = 0; what <= 2; what++) {
                due(x.clash(i, what), due[i][what]);
            }
        }
        refused(NONE, y -> y.clash(2, 0));
        refused(NONE, y -> y.clash(GREATEST, 2));
        refused(NONE, FreeLances::new, y -> y.clash(0, 0));
    }

    static void promise31_beyondAheadOfNone() {
        refused(BEYOND, x -> x.clash(2, 3));
        refused(BEYOND, FreeLances::new, x -> x.clash(0, -1));
    }

    static void promise31_theFirstDayMayBe0() {
        FreeLances x = land(2, 1);
        x.contract(0, 0, 0, 1);
        x.contract(100, 0, 0, 1);
        due(x.clash(0, 2), 0);
        due(x.clash(1, 2), NONE);
    }

    static void promise31_byRisingNumbersAllOf24() {
        FreeLances x = land(2, 1);
        for (int i = 0; i < 24; i++) {
            x.contract(i % 2 * 100, 5, 5, 1);
        }
        due(x.count(12), 144);
        due(x.clash(0, 0), 0);
        due(x.clash(0, 1), 1);
        due(x.clash(11, 1), 23);
        due(x.clash(12, 0), 1);
        due(x.clash(12, 1), 2);
        due(x.clash(143, 0), 22);
        due(x.clash(143, 1), 23);
        due(x.clash(144, 0), NONE);
    }

    // ---- promise 32: free

    private static int free(int first, int last, int day, boolean worst) {
        FreeLances x = land(1, 1);
        x.contract(0, first, last, 1);
        until(x, day);
        return x.free(0, worst);
    }

    static void promise32_theCompanyMustStand() {
        range(0, 2, (x, v) -> x.free(v, false));
        range(0, 2, (x, v) -> x.free(v, true));
        refused(BEYOND, () -> land(1, 0), x -> x.free(0, true));
    }

    static void promise32_itIsFromTheDayOn() {
        due(free(5, 9, 0, false), 0);
        due(free(5, 9, 4, false), 4);
        due(free(5, 9, 5, false), 10);
        due(free(5, 9, 9, false), 10);
        due(free(5, 9, 10, false), 10);
        due(free(5, 9, 11, false), 11);
        due(free(0, 0, 0, false), 1);
    }

    static void promise32_daysWithoutAGapAreOne() {
        FreeLances x = land(2, 1);
        x.contract(0, 20, 29, 1);
        x.contract(100, 0, 9, 1);
        x.contract(0, 10, 19, 1);
        due(x.free(0, false), 30);
        x = land(2, 1);
        x.contract(0, 20, 29, 1);
        x.contract(100, 0, 9, 1);
        x.contract(0, 11, 19, 1);
        due(x.free(0, false), 10);
    }

    static void promise32_worstRenewsFor30Days() {
        due(free(5, 9, 0, true), 0);
        due(free(5, 9, 5, true), 40);
        due(free(0, 0, 0, true), 31);
    }

    static void promise32_worstRenewsWhatEndsOnTheDayOrBehindIt() {
        due(free(5, 9, 9, true), 40);
        due(free(5, 9, 10, true), 10);
    }

    static void promise32_worstDoesNotRenewWhatWasRenewed() {
        FreeLances x = land(1, 1);
        x.contract(0, 0, 9, 1);
        x.renew(0, 2, 0);
        due(x.free(0, false), 12);
        due(x.free(0, true), 42);
        x = land(1, 1);
        x.contract(0, 0, 100, 1);
        x.renew(0, 1, 0);
        x.contract(0, 5, 20, 1);
        until(x, 101);
        due(x.free(0, true), 132);
        until(x, 102);
        due(x.free(0, true), 102);
    }

    static void promise32_noneUpTo3000() {
        due(free(0, 2999, 0, false), 3000);
        due(free(0, 3000, 0, false), NONE);
        due(free(0, 2969, 0, true), 3000);
        due(free(0, 2970, 0, true), NONE);
        due(free(0, 3000, 0, true), NONE);
        due(free(5, 3000, 3000, true), NONE);
        due(free(5, 2999, 3000, true), 3000);
        refused(NONE, () -> {
            FreeLances x = land(1, 1);
            x.contract(0, 0, 3000, 1);
            return x;
        }, x -> x.free(0, false));
    }

    static void promise32_withAll24Contracts() {
        FreeLances x = land(1, 1);
        for (int i = 23; i >= 0; i--) {
            x.contract(0, 100 * i, 100 * i + 99, 1);
        }
        due(x.free(0, false), 2400);
        due(x.free(0, true), 2430);
    }
}
