/** The edges of promises 1 to 10: a new object, TOWNS, ROADS, COMPANIES that march and buy. */
final class TownEdges extends Edges {
    private TownEdges() {
    }

    // ---- promise 1: a new object

    static void promise1_nothingIsCounted() {
        FreeLances x = new FreeLances();
        for (int what = 0; what <= 13; what++) {
            due(x.count(what), 0);
        }
        for (int k = 1; k <= 5; k++) {
            due(x.found(k), 0);
        }
    }

    static void promise1_nothingStands() {
        FreeLances x = new FreeLances();
        due(x.townIs(0, 0), BEYOND);
        due(x.about(0, 0), BEYOND);
        due(x.lanceIs(0, 0), BEYOND);
        due(x.bondIs(0, 0), BEYOND);
        due(x.says(0, 0, 0, 0), BEYOND);
        due(x.force(0, 3000), NONE);
        due(x.clash(0, 0), NONE);
        due(x.shown(0), NONE);
        due(x.trace(0), NONE);
        due(x.restore(), NONE);
        due(x.found(1), 5);
        due(x.found(2), 5);
    }

    static void promise1_eachObjectIsItsOwn() {
        FreeLances x = new FreeLances();
        FreeLances y = new FreeLances();
        x.town(5, 5);
        x.image();
        x.sheet(0, 8, 1);
        due(y.count(0), 0);
        due(y.restore(), NONE);
        due(y.put(0, 0, 0), NONE);
    }

    // ---- promise 2: town

    static void promise2_coinIs0To99999() {
        range(0, 99999, (x, v) -> x.town(v, 0));
        FreeLances x = new FreeLances();
        due(x.town(99999, 0), 0);
        due(x.townIs(0, 0), 99999);
        due(x.town(0, 0), 1);
        due(x.townIs(1, 0), 0);
    }

    static void promise2_breadIs0To99999() {
        range(0, 99999, (x, v) -> x.town(0, v));
        FreeLances x = new FreeLances();
        due(x.town(0, 99999), 0);
        due(x.townIs(0, 1), 99999);
        due(x.town(0, 0), 1);
        due(x.townIs(1, 1), 0);
    }

    static void promise2_fullWith8() {
        FreeLances x = new FreeLances();
        for (int i = 0; i < 8; i++) {
            due(x.town(0, 0), i);
        }
        refused(FULL, () -> land(8, 1), y -> y.town(0, 0));
    }

    static void promise2_beyondAheadOfFull() {
        refused(BEYOND, () -> land(8, 1), x -> x.town(-1, 0));
        refused(BEYOND, () -> land(8, 1), x -> x.town(0, 100000));
    }

    // ---- promise 3: road

    static void promise3_bothTownsMustStand() {
        range(1, 3, (x, v) -> x.road(0, v, 1));
        range(0, 2, (x, v) -> x.road(v, 3, 1));
        refused(BEYOND, FreeLances::new, x -> x.road(0, 1, 1));
    }

    static void promise3_bothMustNotBeOne() {
        refused(BEYOND, x -> x.road(0, 0, 1));
        refused(BEYOND, x -> x.road(3, 3, 1));
    }

    static void promise3_daysAre1To9() {
        range(1, 9, (x, v) -> x.road(3, 0, v));
    }

    private static FreeLances roads() {
        FreeLances x = land(3, 1);
        for (int i = 0; i < 16; i++) {
            x.road(i % 2, 2, 1 + i % 9);
        }
        return x;
    }

    static void promise3_fullWith16() {
        FreeLances x = land(3, 0);
        for (int i = 1; i <= 16; i++) {
            due(x.road(0, 1, 9), i);
        }
        due(x.count(1), 16);
        refused(FULL, TownEdges::roads, y -> y.road(0, 1, 1));
    }

    static void promise3_beyondAheadOfFull() {
        refused(BEYOND, TownEdges::roads, x -> x.road(0, 3, 1));
        refused(BEYOND, TownEdges::roads, x -> x.road(1, 1, 1));
        refused(BEYOND, TownEdges::roads, x -> x.road(0, 1, 0));
    }

    // ---- promise 4: far

    static void promise4_bothTownsMustStand() {
        range(0, 2, () -> {
            FreeLances x = land(3, 0);
            x.road(0, 1, 1);
            x.road(1, 2, 1);
            return x;
        }, (x, v) -> x.far(1, v));
        range(0, 0, () -> land(1, 0), (x, v) -> x.far(v, 0));
    }

    static void promise4_fromATownToItselfIs0() {
        due(rich().far(3, 3), 0);
        due(rich().far(0, 0), 0);
        due(land(1, 0).far(0, 0), 0);
    }

    static void promise4_noneIfNoWayLeadsThere() {
        refused(NONE, x -> x.far(0, 3));
        refused(NONE, x -> x.far(3, 0));
        due(rich().far(0, 2), 7);
        due(rich().far(2, 0), 7);
    }

    // ---- promise 5: townIs

    static void promise5_theTownMustStand() {
        range(0, 3, (x, v) -> x.townIs(v, 0));
        refused(BEYOND, FreeLances::new, x -> x.townIs(0, 0));
    }

    static void promise5_whatIs0To4() {
        range(0, 4, (x, v) -> x.townIs(0, v));
    }

    static void promise5_companiesThatLieInItAreBits() {
        FreeLances x = land(2, 5);
        due(x.townIs(0, 4), 31);
        due(x.townIs(1, 4), 0);
        x.road(0, 1, 1);
        x.march(4, 1);
        x.march(0, 1);
        due(x.townIs(0, 4), 14);
        due(x.townIs(1, 4), 0);
        x.days(1);
        due(x.townIs(1, 4), 17);
    }

    // ---- promise 6: wall

    static void promise6_theTownMustStand() {
        range(0, 3, (x, v) -> x.wall(v, 1, 1));
        due(rich().wall(3, 1, 1), 1);
    }

    static void promise6_wallAndGunsAreOfThatTownAlone() {
        FreeLances x = rich();
        due(x.wall(3, 999, 99), 1);
        int[][] due = {{100, 0}, {250, 35}, {100, 0}, {999, 99}};
        for (int town = 0; town < 4; town++) {
            due(x.townIs(town, 2), due[town][0]);
            due(x.townIs(town, 3), due[town][1]);
        }
    }

    static void promise6_wallIs0To999() {
        range(0, 999, (x, v) -> x.wall(1, v, 1));
    }

    static void promise6_gunsAre0To99() {
        range(0, 99, (x, v) -> x.wall(1, 1, v));
    }

    // ---- promise 7: harvest

    /** TOWN 0 has 999990 BREAD. */
    private static FreeLances barn() {
        FreeLances x = new FreeLances();
        x.town(0, 99999);
        for (int i = 0; i < 90; i++) {
            x.harvest(0, 9999);
        }
        x.harvest(0, 81);
        return x;
    }

    static void promise7_theTownMustStand() {
        range(0, 3, (x, v) -> x.harvest(v, 1));
    }

    static void promise7_nIs1To9999() {
        range(1, 9999, (x, v) -> x.harvest(0, v));
        FreeLances x = land(1, 0);
        due(x.harvest(0, 9999), 10999);
        due(x.harvest(0, 1), 11000);
    }

    static void promise7_fullAbove999999() {
        FreeLances x = barn();
        due(x.townIs(0, 1), 999990);
        due(x.harvest(0, 9), 999999);
        due(barn().harvest(0, 8), 999998);
        refused(FULL, TownEdges::barn, y -> y.harvest(0, 10));
        refused(FULL, TownEdges::barn, y -> y.harvest(0, 9999));
    }

    static void promise7_beyondAheadOfFull() {
        refused(BEYOND, TownEdges::barn, x -> x.harvest(0, 10000));
        refused(BEYOND, TownEdges::barn, x -> x.harvest(1, 9999));
    }

    // ---- promise 8: company

    static void promise8_theTownMustStand() {
        range(0, 3, (x, v) -> x.company(v, 0, 0));
        refused(BEYOND, FreeLances::new, x -> x.company(0, 0, 0));
    }

    static void promise8_coinIs0To9999() {
        range(0, 9999, (x, v) -> x.company(0, v, 0));
        FreeLances x = land(1, 0);
        x.company(0, 9999, 0);
        due(x.about(0, 1), 9999);
        due(x.about(0, 2), 0);
    }

    static void promise8_breadIs0To9999() {
        range(0, 9999, (x, v) -> x.company(0, 0, v));
        FreeLances x = land(1, 0);
        x.company(0, 0, 9999);
        due(x.about(0, 2), 9999);
        due(x.about(0, 1), 0);
    }

    static void promise8_fullWith5() {
        FreeLances x = land(2, 0);
        for (int i = 0; i < 5; i++) {
            due(x.company(i % 2, 0, 0), i);
        }
        refused(FULL, () -> land(1, 5), y -> y.company(0, 0, 0));
    }

    static void promise8_beyondAheadOfFull() {
        refused(BEYOND, () -> land(1, 5), x -> x.company(1, 0, 0));
        refused(BEYOND, () -> land(1, 5), x -> x.company(0, -1, 0));
        refused(BEYOND, () -> land(1, 5), x -> x.company(0, 0, 10000));
    }

    // ---- promise 9: march

    static void promise9_theCompanyMustStand() {
        range(0, 1, () -> {
            FreeLances x = land(2, 2);
            x.road(0, 1, 1);
            return x;
        }, (x, v) -> x.march(v, 1));
    }

    static void promise9_theTownMustStand() {
        due(rich().march(0, 1), 33);
        due(rich().march(0, 2), 37);
        for (int town : new int[] {-1, 4, LEAST, GREATEST}) {
            refused(BEYOND, x -> x.march(0, town));
        }
    }

    static void promise9_stateIfItMarches() {
        refused(STATE, x -> x.march(2, 0));
        refused(STATE, x -> x.march(2, 1));
        refused(STATE, x -> x.march(2, 2));
    }

    static void promise9_stateIfItLiesThere() {
        refused(STATE, x -> x.march(0, 0));
        refused(STATE, () -> land(1, 1), x -> x.march(0, 0));
    }

    static void promise9_noneIfNoWayLeadsThere() {
        refused(NONE, x -> x.march(0, 3));
    }

    static void promise9_beyondAheadOfStateAheadOfNone() {
        refused(BEYOND, x -> x.march(2, 4));
        refused(STATE, x -> x.march(2, 3));
    }

    static void promise9_theDayMayBeBehind3000() {
        FreeLances x = land(2, 1);
        x.road(0, 1, 9);
        until(x, 3000);
        due(x.march(0, 1), 3009);
        due(x.about(0, 0), -1);
    }

    static void promise9_onTheDayOnWhichItIsThereItMayMarchOn() {
        FreeLances x = land(2, 1);
        x.road(0, 1, 1);
        due(x.march(0, 1), 1);
        x.days(1);
        due(x.march(0, 1), STATE);
        due(x.march(0, 0), 2);
    }

    // ---- promise 10: buy

    /** COMPANY 0 has so much COIN, TOWN 0 so much BREAD. */
    private static FreeLances market(int coin, int bread) {
        FreeLances x = new FreeLances();
        x.town(3, bread);
        x.company(0, coin, 2);
        return x;
    }

    static void promise10_theCompanyMustStand() {
        range(0, 1, () -> land(1, 2), (x, v) -> x.buy(v, 1));
    }

    static void promise10_nIs1To9999() {
        range(1, 9999, () -> market(9999, 9999), (x, v) -> x.buy(0, v));
    }

    static void promise10_stateIfItMarches() {
        refused(STATE, x -> x.buy(2, 1));
    }

    static void promise10_noneIfItHasLessCoin() {
        FreeLances x = market(50, 999);
        due(x.buy(0, 50), 52);
        due(x.about(0, 1), 0);
        due(x.about(0, 2), 52);
        due(x.townIs(0, 0), 53);
        due(x.townIs(0, 1), 949);
        refused(NONE, () -> market(50, 999), y -> y.buy(0, 51));
        refused(NONE, () -> market(0, 999), y -> y.buy(0, 1));
    }

    static void promise10_noneIfTheTownHasLessBread() {
        FreeLances x = market(999, 50);
        due(x.buy(0, 50), 52);
        due(x.townIs(0, 1), 0);
        refused(NONE, () -> market(999, 50), y -> y.buy(0, 51));
        refused(NONE, () -> market(999, 0), y -> y.buy(0, 1));
    }

    static void promise10_beyondAheadOfStateAheadOfNone() {
        refused(BEYOND, x -> x.buy(2, 0));
        refused(BEYOND, x -> x.buy(2, 10000));
        refused(STATE, x -> x.buy(2, 9999));
        refused(BEYOND, () -> market(0, 0), x -> x.buy(0, 0));
    }

    static void promise10_itIsTheTownInWhichItLies() {
        FreeLances x = land(2, 1);
        x.road(0, 1, 1);
        x.march(0, 1);
        x.days(1);
        due(x.buy(0, 10), 10);
        due(x.townIs(0, 0), 1000);
        due(x.townIs(1, 0), 1010);
        due(x.townIs(1, 1), 990);
    }
}
