/** The edges of promises 11 to 15: what COMPANIES and LANCES are, LANCES that go over or are taken. */
final class LanceEdges extends Edges {
    private LanceEdges() {
    }

    // ---- promise 11: about

    static void promise11_theCompanyMustStand() {
        range(0, 2, (x, v) -> x.about(v, 1));
        refused(BEYOND, () -> land(1, 0), x -> x.about(0, 0));
    }

    static void promise11_whatIs0To8() {
        range(0, 8, (x, v) -> x.about(0, v));
    }

    static void promise11_minus1WhereThereIsNone() {
        FreeLances x = land(2, 1);
        x.road(0, 1, 1);
        x.march(0, 1);
        for (int what : new int[] {0, 6, 7, 8}) {
            due(x.about(0, what), -1);
        }
    }

    static void promise11_aMusterOfNothingOnDay0IsOne() {
        FreeLances x = land(1, 1);
        x.sheet(0, 8, 0);
        x.muster(0, 0);
        due(x.about(0, 7), 0);
        due(x.about(0, 8), 0);
    }

    static void promise11_fitAndSickOnesAreItsOwn() {
        FreeLances x = rich();
        int[][] due = {{2, 0}, {1, 0}, {0, 1}};
        for (int company = 0; company < due.length; company++) {
            due(x.about(company, 4), due[company][0]);
            due(x.about(company, 5), due[company][1]);
        }
    }

    static void promise11_servesIsThatOfTheDay() {
        FreeLances x = land(2, 1);
        x.contract(100, 1, 2, 1);
        int[] serves = {-1, 1, 1, -1};
        for (int town : serves) {
            due(x.about(0, 6), town);
            x.days(1);
        }
    }

    // ---- promise 12: lance

    static void promise12_theCompanyMustStand() {
        range(0, 2, (x, v) -> x.lance(v, 0, 100));
        refused(BEYOND, () -> land(1, 0), x -> x.lance(0, 0, 100));
    }

    static void promise12_markIs0To99() {
        range(0, 99, (x, v) -> x.lance(2, v, 150));
    }

    static void promise12_heightIs100To180() {
        range(100, 180, (x, v) -> x.lance(2, 50, v));
    }

    private static FreeLances host() {
        FreeLances x = land(1, 2);
        lances(x, 0, 40);
        return x;
    }

    static void promise12_fullWith40() {
        FreeLances x = land(1, 2);
        for (int i = 0; i < 40; i++) {
            due(x.lance(i % 2, 0, 100), i);
        }
        due(x.about(0, 4), 20);
        due(x.about(1, 4), 20);
        refused(FULL, LanceEdges::host, y -> y.lance(1, 0, 100));
    }

    static void promise12_fullEvenIfSomeAreDead() {
        FreeLances x = new FreeLances();
        x.town(0, 0);
        x.company(0, 0, 0);
        lances(x, 0, 40);
        x.days(6);
        due(x.lanceIs(0, 3), 3);
        due(x.lance(0, 0, 100), FULL);
    }

    static void promise12_beyondAheadOfFull() {
        refused(BEYOND, LanceEdges::host, x -> x.lance(2, 0, 100));
        refused(BEYOND, LanceEdges::host, x -> x.lance(0, 100, 100));
        refused(BEYOND, LanceEdges::host, x -> x.lance(0, 0, 181));
    }

    // ---- promise 13: lanceIs

    static void promise13_theLanceMustStand() {
        range(0, 5, (x, v) -> x.lanceIs(v, 0));
        refused(BEYOND, () -> land(1, 1), x -> x.lanceIs(0, 0));
    }

    static void promise13_whatIs0To4() {
        range(0, 4, (x, v) -> x.lanceIs(0, v));
    }

    static void promise13_howItIsAndWhoHoldsIt() {
        FreeLances x = rich();
        int[] how = {0, 0, 2, 0, 3, 1};
        for (int lance = 0; lance < how.length; lance++) {
            due(x.lanceIs(lance, 3), how[lance]);
            due(x.lanceIs(lance, 4), lance == 2 ? 1 : -1);
        }
    }

    static void promise13_town0HoldsIt() {
        FreeLances x = land(2, 0);
        x.company(1, 0, 0);
        x.lance(0, 0, 100);
        x.take(0, 0);
        due(x.lanceIs(0, 4), 0);
    }

    // ---- promise 14: over

    /** LANCE 0 is of COMPANY 0, which serves TOWN 0 from day 10 to 3000; COMPANY 1 lies there, too. */
    private static FreeLances serving() {
        FreeLances x = poor(2);
        x.lance(0, 0, 100);
        x.contract(0, 10, 3000, 1);
        return x;
    }

    static void promise14_theLanceMustStand() {
        range(0, 0, () -> {
            FreeLances x = land(1, 2);
            x.lance(0, 0, 100);
            return x;
        }, (x, v) -> x.over(v, 1));
    }

    static void promise14_theCompanyMustStand() {
        for (int company : new int[] {-1, 3, LEAST, GREATEST}) {
            refused(BEYOND, x -> x.over(3, company));
        }
        due(rich().over(3, 0), STATE);
    }

    static void promise14_beyondIfItIsOfThat() {
        refused(BEYOND, x -> x.over(0, 0));
        refused(BEYOND, x -> x.over(5, 2));
    }

    static void promise14_beyondAheadOfState() {
        refused(BEYOND, x -> x.over(2, 0));
        refused(BEYOND, x -> x.over(4, 2));
        refused(BEYOND, x -> x.over(4, 3));
    }

    static void promise14_stateIfItIsAway() {
        FreeLances x = land(2, 2);
        x.lance(0, 0, 100);
        x.take(1, 0);
        due(x.over(0, 1), STATE);
        refused(STATE, y -> y.over(2, 1));
    }

    static void promise14_stateIfItIsDead() {
        FreeLances x = new FreeLances();
        x.town(0, 0);
        x.company(0, 0, 0);
        x.company(0, 0, 0);
        lances(x, 0, 2);
        x.days(6);
        due(x.lanceIs(0, 3), 3);
        due(x.over(0, 1), STATE);
        due(x.lanceIs(1, 3), 1);
        due(x.over(1, 1), 0);
        due(x.about(1, 5), 1);
        due(x.about(0, 5), 0);
    }

    static void promise14_stateIfItsCompanyServes() {
        FreeLances x = serving();
        until(x, 9);
        due(x.over(0, 1), 0);
        due(x.over(0, 0), 1);
        until(x, 10);
        due(x.over(0, 1), STATE);
        refused(STATE, () -> {
            FreeLances y = serving();
            until(y, 10);
            return y;
        }, y -> y.over(0, 1));
    }

    static void promise14_theOtherCompanyMayServe() {
        FreeLances x = serving();
        x.lance(1, 5, 100);
        until(x, 10);
        due(x.over(1, 0), 1);
        due(x.lanceIs(1, 0), 0);
    }

    static void promise14_behindTheLastDayTheyMayLeave() {
        FreeLances x = poor(2);
        x.lance(0, 0, 100);
        x.contract(0, 0, 5, 1);
        until(x, 5);
        due(x.over(0, 1), STATE);
        until(x, 6);
        due(x.over(0, 1), 0);
    }

    static void promise14_leaveIsOfContractsOfWhichSomethingIsOwed() {
        FreeLances x = serving();
        law(x, 2, 0, "1");
        until(x, 29);
        due(x.over(0, 1), STATE);
        law(x, 1, 0, "1");
        until(x, 30);
        due(x.over(0, 1), 0);
    }

    static void promise14_oneThatLetsThemIsEnough() {
        FreeLances x = poor(2);
        x.lance(0, 0, 100);
        x.contract(0, 0, 3000, 1);
        x.contract(0, 0, 3000, 2);
        x.contract(0, 0, 3000, 3);
        law(x, 1, 0, "p");
        x.days(30);
        law(x, 2, 0, "o>3");
        due(x.over(0, 1), STATE);
        law(x, 2, 0, "o=2");
        due(x.over(0, 1), 0);
    }

    static void promise14_leaveIsAlsoOfAContractThatIsOver() {
        FreeLances x = poor(2);
        x.lance(0, 0, 100);
        x.contract(0, 0, 30, 1);
        x.contract(0, 31, 3000, 0);
        law(x, 1, 0, "p");
        until(x, 90);
        due(x.over(0, 1), STATE);
        until(x, 91);
        due(x.over(0, 1), 0);
    }

    static void promise14_withAll24Contracts() {
        FreeLances x = poor(2);
        x.lance(0, 0, 100);
        for (int i = 0; i < 24; i++) {
            x.contract(0, 0, 3000, i);
        }
        law(x, 1, 0, "p=23");
        x.days(30);
        law(x, 2, 0, "o=2");
        due(x.over(0, 1), STATE);
        law(x, 2, 0, "o=1");
        due(x.over(0, 1), 0);
    }

    static void promise14_leaveIsThatOfTheDay() {
        FreeLances x = serving();
        law(x, 1, 0, "1");
        law(x, 2, 32, "1");
        until(x, 31);
        due(x.over(0, 1), STATE);
        until(x, 32);
        due(x.over(0, 1), 0);
    }

    static void promise14_whatIsOwedToAnotherCompanyDoesNotLetThem() {
        FreeLances x = serving();
        x.contract(1, 0, 3000, 1);
        law(x, 1, 0, "1");
        until(x, 30);
        x.stop(0, 1);
        law(x, 2, 0, "1");
        due(x.over(0, 1), STATE);
    }

    static void promise14_stateIfBothDoNotLieInOneTown() {
        FreeLances x = land(2, 2);
        x.lance(0, 0, 100);
        x.road(0, 1, 1);
        x.march(1, 1);
        due(x.over(0, 1), STATE);
        x.days(1);
        due(x.over(0, 1), STATE);
        x.march(0, 1);
        due(x.over(0, 1), STATE);
        x.days(1);
        due(x.over(0, 1), 0);
        x.march(0, 0);
        x.march(1, 0);
        due(x.over(0, 0), STATE);
    }

    // ---- promise 15: take

    static void promise15_theTownMustStand() {
        range(0, 3, (x, v) -> x.take(v, 5));
    }

    static void promise15_theLanceMustStand() {
        for (int lance : new int[] {-1, 6, LEAST, GREATEST}) {
            refused(BEYOND, x -> x.take(1, lance));
        }
        due(rich().take(0, 5), 1);
        due(rich().take(1, 0), 1);
    }

    static void promise15_stateIfItIsAway() {
        refused(STATE, x -> x.take(1, 2));
        refused(STATE, x -> x.take(2, 2));
    }

    static void promise15_stateIfItIsDead() {
        refused(STATE, x -> x.take(1, 4));
    }

    static void promise15_stateIfItsCompanyLiesInThatTown() {
        refused(STATE, x -> x.take(0, 0));
        due(rich().take(3, 0), 1);
    }

    static void promise15_whoMarchesMayBeTakenByAnyTown() {
        for (int town = 0; town < 4; town++) {
            FreeLances x = rich();
            due(x.take(town, 5), 1);
            due(x.lanceIs(5, 3), 2);
            due(x.lanceIs(5, 4), town);
            due(x.about(2, 5), 0);
        }
    }
}
