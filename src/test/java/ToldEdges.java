/** The edges of promises 50 to 55: IMAGES, numbers that wait, what is counted and found. */
final class ToldEdges extends Edges {
    private ToldEdges() {
    }

    // ---- promise 50: image

    static void promise50_howOftenThatWasDone() {
        FreeLances x = new FreeLances();
        for (int i = 1; i <= 5; i++) {
            due(x.image(), i);
            x.restore();
        }
        due(rich().image(), 2);
    }

    static void promise50_inPlaceOfOneAhead() {
        FreeLances x = new FreeLances();
        x.image();
        x.days(5);
        x.image();
        x.days(5);
        due(x.restore(), 5);
        due(x.restore(), 5);
    }

    static void promise50_sheetsAreNotKept() {
        FreeLances x = new FreeLances();
        fill(x, 0, 8, 1, 1);
        x.image();
        fill(x, 0, 16, 3, 1, 0);
        fill(x, 1, 8, 7);
        x.restore();
        due(x.parts(4, 0, 0), 3);
        due(x.parts(4, 0, 2), 0);
        due(x.parts(4, 1, 0), 4);
    }

    static void promise50_theTraceIsNotKept() {
        FreeLances x = rich();
        x.image();
        x.voice(0, 0, 0);
        x.restore();
        due(x.count(8), 1);
        due(x.trace(0), 10);
    }

    static void promise50_whatFoundTellsIsNotKept() {
        FreeLances x = rich();
        x.image();
        x.town(-1, 0);
        x.restore();
        due(x.found(1), 1);
    }

    static void promise50_nothingElseChanges() {
        FreeLances x = rich();
        FreeLances y = rich();
        x.image();
        x.restore();
        for (int what = 0; what <= 13; what++) {
            due(x.count(what), y.count(what));
        }
        due(x.days(3), y.days(3));
        due(x.about(2, 0), y.about(2, 0));
    }

    // ---- promise 51: restore

    static void promise51_noneIfThereIsNone() {
        refused(NONE, () -> land(2, 2), x -> x.restore());
        refused(NONE, FreeLances::new, x -> x.restore());
    }

    static void promise51_allIsAsTheImageHasIt() {
        FreeLances x = rich();
        due(x.restore(), 20);
        FreeLances y = rich();
        y.restore();
        x.town(9, 9);
        x.road(3, 0, 1);
        x.road(4, 0, 1);
        x.wall(0, 1, 1);
        x.company(4, 9, 9);
        x.lance(3, 9, 100);
        x.winter(0, 1, 77);
        x.winter(0, 4, 77);
        x.contract(301, 0, 3000, 9);
        x.renew(1, 5, 0);
        x.over(0, 1);
        x.take(3, 0);
        x.safe(0, 0, 0, 9, 9);
        law(x, 1, 0, "n");
        feed(x, "12");
        x.tell(1);
        x.muster(0, 1);
        x.days(40);
        x.march(0, 1);
        due(x.restore(), 20);
        same(x, y);
    }

    static void promise51_aMarchGoesOnAsItWas() {
        FreeLances x = land(4, 1);
        x.road(0, 2, 3);
        x.road(2, 3, 9);
        x.days(1);
        x.march(0, 2);
        x.image();
        x.days(5);
        x.march(0, 3);
        due(x.restore(), 1);
        due(x.about(0, 0), -1);
        x.days(2);
        due(x.about(0, 0), -1);
        x.days(1);
        due(x.about(0, 0), 2);
    }

    static void promise51_aMusterIsAsItWas() {
        FreeLances x = land(2, 2);
        lances(x, 0, 5);
        x.road(0, 1, 2);
        fill(x, 0, 8, 1, 2, 3);
        fill(x, 1, 8, 4);
        fill(x, 2, 8, -1, -1, -1);
        x.muster(0, 0);
        x.muster(1, 0);
        x.image();
        x.march(0, 1);
        x.days(2);
        x.muster(0, 1);
        x.restore();
        due(x.about(0, 7), 3);
        due(x.about(0, 8), 0);
        due(x.twice(3, 0, 1), 1);
        due(x.twice(4, 0, 1), 0);
        due(x.muster(0, 2), 3);
        // The TOWN of a MUSTER, too: COMPANY 0 shows MARK 1 far from there, and that is undone.
        x = land(2, 2);
        x.road(0, 1, 2);
        x.days(5);
        fill(x, 0, 8, 1);
        x.muster(0, 0);
        x.muster(1, 0);
        x.march(1, 1);
        x.days(2);
        x.image();
        x.muster(1, 0);
        due(x.twice(1, 0, 1), 1);
        x.road(0, 1, 1);
        x.restore();
        due(x.twice(1, 0, 1), 1);
    }

    static void promise51_theTownOfAMusterIsAsItWas() {
        FreeLances x = land(3, 1);
        x.company(2, 0, 0);
        x.road(0, 1, 1);
        fill(x, 0, 8, 1);
        x.muster(1, 0);
        x.muster(0, 0);
        due(x.twice(1, 0, 1), 2);
        x.image();
        x.road(1, 2, 1);
        x.march(0, 1);
        x.days(2);
        x.muster(0, 0);
        due(x.twice(1, 0, 1), 1);
        x.restore();
        due(x.twice(1, 0, 1), 2);
        x.road(0, 2, 1);
        due(x.twice(1, 0, 1), 2);
    }

    static void promise51_whatIsLeftOfAdvancesIsAsItWas() {
        FreeLances x = land(1, 1);
        x.contract(0, 0, 3000, 1);
        law(x, 1, 0, "10");
        x.advance(0, 15);
        x.image();
        x.days(60);
        due(x.bondIs(0, 9), 0);
        x.restore();
        due(x.bondIs(0, 9), 15);
        x.days(30);
        due(x.bondIs(0, 9), 5);
    }

    static void promise51_theTapeIsAsItWas() {
        FreeLances x = new FreeLances();
        feed(x, "7*");
        x.image();
        x.statute(0, 0);
        feed(x, "1+1+1");
        x.restore();
        due(x.count(7), 2);
        feed(x, "6");
        due(x.statute(0, 0), 0);
        due(x.says(0, 0, 0, 0), 42);
    }

    static void promise51_whatWaitsIsAsItWas() {
        FreeLances x = court(6, 4, -2, 0);
        x.image();
        due(x.judge(), 0);
        for (int i = 0; i < 6; i++) {
            x.tell(99);
        }
        x.restore();
        due(x.count(9), 4);
        due(x.judge(), 0);
    }

    static void promise51_theImageStays() {
        FreeLances x = rich();
        x.restore();
        x.days(100);
        due(x.restore(), 20);
        FreeLances y = rich();
        y.restore();
        same(x, y);
    }

    static void promise51_aNewThingIsNewBehindIt() {
        FreeLances x = land(1, 1);
        x.image();
        x.town(5, 5);
        x.road(0, 1, 3);
        x.wall(1, 5, 5);
        x.company(1, 5, 5);
        lances(x, 1, 4);
        x.take(0, 0);
        x.winter(1, 0, 9);
        x.winter(1, 1, 9);
        x.contract(1, 0, 100, 5);
        x.renew(0, 5, 0);
        x.advance(0, 5);
        fill(x, 0, 8, 1);
        x.muster(1, 0);
        law(x, 1, 0, "9999");
        x.tell(5);
        x.harvest(1, 68);
        x.days(30);
        // All that a COMPANY and a BOND can have is not 0: HUNGER, FIT and SICK ones, OWED, and what is left.
        x.buy(0, 50);
        x.advance(0, 7);
        due(x.about(1, 3), 4);
        due(x.about(1, 4), 1);
        due(x.about(1, 5), 2);
        due(x.bondIs(0, 7), 8999);
        due(x.bondIs(0, 9), 7);
        due(x.restore(), 0);
        FreeLances y = land(1, 1);
        for (FreeLances each : new FreeLances[] {x, y}) {
            each.town(7, 7);
            each.company(1, 7, 7);
            each.lance(1, 1, 170);
            each.contract(101, 0, 9, 7);
            fill(each, 0, 8, -1);
            due(each.muster(1, 0), 0);
            law(each, 0, 0, "7");
        }
        due(x.far(0, 1), NONE);
        due(x.winter(1, 0, 0), 0);
        due(x.winter(1, 1, 0), 0);
        due(x.says(0, 0, 0, 0), 7);
        for (int what = 0; what <= 8; what++) {
            due(x.about(1, what), y.about(1, what));
        }
        for (int what = 0; what <= 9; what++) {
            due(x.bondIs(0, what), y.bondIs(0, what));
        }
        due(x.renew(0, 1, 0), 1);
        for (int what = 0; what <= 4; what++) {
            due(x.townIs(1, what), y.townIs(1, what));
            due(x.lanceIs(0, what), y.lanceIs(0, what));
        }
        due(x.count(9), 0);
    }

    // ---- promise 52: tell

    private static FreeLances waiting(int n) {
        FreeLances x = land(2, 2);
        for (int i = 0; i < n; i++) {
            x.tell(0);
        }
        return x;
    }

    static void promise52_howManyWait() {
        FreeLances x = new FreeLances();
        for (int i = 1; i <= 20; i++) {
            due(x.tell(i), i);
            due(x.count(9), i);
        }
    }

    static void promise52_fullWith20() {
        due(waiting(19).tell(0), 20);
        refused(FULL, () -> waiting(20), x -> x.tell(0));
        refused(FULL, () -> waiting(20), x -> x.tell(LEAST));
    }

    static void promise52_anyNumberMayWait() {
        FreeLances x = new FreeLances();
        due(x.tell(LEAST), 1);
        due(x.tell(GREATEST), 2);
        due(x.tell(BEYOND), 3);
    }

    // ---- promise 53: judge

    /** Two COMPANIES and two TOWNS: COMPANY 0 costs 4 and 6, COMPANY 1 2 and 9; WINTERING costs 8. */
    private static FreeLances court(int... rows) {
        FreeLances x = land(2, 2);
        x.winter(0, 0, 4);
        x.winter(0, 1, 6);
        x.winter(1, 0, 2);
        x.winter(1, 1, 9);
        for (int row : rows) {
            x.tell(row);
        }
        return x;
    }

    private static int judged(int... rows) {
        return court(rows).judge();
    }

    static void promise53_0IfTheyProve() {
        due(court().wintering(-1), 8);
        due(judged(6, 4, -2, 0), 0);
        due(judged(7, 5, -3, -1), 0);
    }

    static void promise53_noneWaitThen() {
        FreeLances x = court(6, 4, -2, 0);
        due(x.judge(), 0);
        due(x.count(9), 0);
        due(x.judge(), 1);
        for (int[] rows : new int[][] {{1}, {0, 0, 1, 0}, {9, 9, 0, 0}, {0, 0, 0, 0}}) {
            x = court(rows);
            x.judge();
            due(x.count(9), 0);
        }
    }

    static void promise53_1IfThereAreNotJustAsMany() {
        due(judged(), 1);
        due(judged(6, 4, -2), 1);
        due(judged(6, 4, -2, 0, 0), 1);
        due(waiting(20).judge(), 1);
    }

    static void promise53_2IfANumberOfATownIsAbove0() {
        due(judged(6, 4, -2, 1), 2);
        due(judged(0, 0, 1, 0), 2);
        due(judged(0, 0, GREATEST, LEAST), 2);
        due(judged(0, 0, 0, 0), 4);
    }

    static void promise53_3IfTwoAreMoreThanWhatItCosts() {
        due(judged(6, 4, -1, 0), 3);
        due(judged(7, 4, -2, 0), 3);
        due(judged(6, 5, -2, 0), 3);
        due(judged(4, 2, 0, 0), 4);
        due(judged(5, 2, 0, 0), 3);
        due(judged(4, 3, 0, 0), 3);
    }

    static void promise53_4IfAllTogetherAreNotThatSum() {
        due(judged(5, 4, -2, 0), 4);
        due(judged(6, 4, -3, 0), 4);
        due(judged(6, 4, -2, -1), 4);
    }

    static void promise53_2AheadOf3AheadOf4() {
        due(judged(99, 99, 1, 0), 2);
        due(judged(99, 99, 0, 1), 2);
        due(judged(99, 99, 0, 0), 3);
        due(judged(1, 2, 3), 1);
    }

    static void promise53_rowsDoNotWrap() {
        // As ints these would go round to what is due.
        due(judged(LEAST, LEAST + 8, 0, 0), 4);
        due(judged(4, 4, LEAST, LEAST), 4);
        // Nor do two of them: this would be far above what it costs.
        due(judged(LEAST, 2, -1, 0), 4);
        due(judged(GREATEST, GREATEST, 0, 0), 3);
        due(judged(GREATEST, 4, LEAST, LEAST), 4);
    }

    static void promise53_whatWaitedAheadDoesNotMatter() {
        FreeLances x = court(9, 9, 9, 9, 9, 9);
        due(x.judge(), 1);
        for (int row : new int[] {6, 4, -2, 0}) {
            x.tell(row);
        }
        due(x.judge(), 0);
    }

    static void promise53_stateIfThereAreFewerTowns() {
        FreeLances x = land(1, 2);
        x.tell(5);
        due(x.judge(), STATE);
        due(x.count(9), 0);
        due(x.found(3), 1);
        x = land(1, 2);
        x.tell(0);
        x.tell(0);
        x.tell(0);
        due(x.judge(), STATE);
        due(x.count(9), 0);
        due(x.townIs(0, 0), 1000);
    }

    static void promise53_withoutAnyNoRowsProve0() {
        due(new FreeLances().judge(), 0);
        FreeLances x = land(2, 0);
        x.tell(0);
        x.tell(0);
        due(x.judge(), 0);
        x.tell(0);
        x.tell(-1);
        due(x.judge(), 4);
    }

    static void promise53_13RowsForAllThatThereMayBe() {
        FreeLances x = land(8, 5);
        for (int company = 0; company < 5; company++) {
            for (int town = 0; town < 8; town++) {
                x.winter(company, town, 9999);
            }
        }
        for (int i = 0; i < 13; i++) {
            x.tell(i < 5 ? 9999 : 0);
        }
        due(x.judge(), 0);
        x.winter(4, 7, 9998);
        for (int i = 0; i < 13; i++) {
            x.tell(i < 5 ? 9999 : 0);
        }
        due(x.judge(), 3);
        for (int i = 0; i < 13; i++) {
            x.tell(i < 5 ? 9999 : i < 12 ? 0 : -1);
        }
        due(x.judge(), 0);
    }

    // ---- promise 54: count

    static void promise54_whatIs0To13() {
        range(0, 13, (x, v) -> x.count(v));
    }

    static void promise54_eachIsCounted() {
        int[] due = {4, 2, 3, 6, 2, 8, 30, 2, 10, 2, 0, 3, 2, 270};
        FreeLances x = rich();
        // All COIN that there was at first is still there: none goes lost by any BOND.
        due[10] = 5000 + 900 + 60 + 7 + 500 + 90 + 40;
        for (int what = 0; what < due.length; what++) {
            due(x.count(what), due[what]);
        }
    }

    static void promise54_theMostCoin() {
        FreeLances x = new FreeLances();
        for (int i = 0; i < 8; i++) {
            x.town(99999, 0);
        }
        for (int i = 0; i < 5; i++) {
            x.company(0, 9999, 0);
        }
        due(x.count(10), 8 * 99999 + 5 * 9999);
    }

    static void promise54_theMostOwed() {
        FreeLances x = poor(1);
        for (int i = 0; i < 24; i++) {
            x.contract(0, 0, 3000, 1);
        }
        law(x, 1, 0, "9999*9999");
        until(x, 3000);
        due(x.bondIs(23, 7), 9999900);
        due(x.count(13), 24 * 9999900);
    }

    // ---- promise 55: found

    static void promise55_kIs1To5() {
        range(1, 5, (x, v) -> x.found(v));
    }

    static void promise55_anotherKIsCountedToo() {
        FreeLances x = new FreeLances();
        due(x.found(0), BEYOND);
        due(x.found(1), 1);
        due(x.found(6), BEYOND);
        due(x.found(-1), BEYOND);
        due(x.found(1), 3);
        due(x.found(1), 3);
    }

    static void promise55_eachFindingIsCountedAlone() {
        FreeLances x = new FreeLances();
        int[] due = new int[6];
        due(x.town(-1, 0), BEYOND);
        due[1]++;
        dueFounds(x, due);
        due(x.trace(0), NONE);
        due[2]++;
        dueFounds(x, due);
        due(x.sheet(0, 8, -1), STATE);
        due[3]++;
        dueFounds(x, due);
        for (int i = 0; i < 23; i++) {
            x.tell(0);
        }
        due[4] += 3;
        dueFounds(x, due);
        x.sheet(0, 8, 0);
        due(x.parts(1, 0, 0), KIND);
        due[5]++;
        dueFounds(x, due);
    }

    private static void dueFounds(FreeLances x, int[] due) {
        for (int k = 1; k <= 5; k++) {
            due(x.found(k), due[k]);
        }
    }

    static void promise55_otherAnswersAreNotCounted() {
        FreeLances x = rich();
        x.statute(0, 0);
        x.judge();
        x.voice(0, 0, BEYOND);
        x.hiring(2, 1);
        x.about(2, 0);
        for (int k = 1; k <= 5; k++) {
            due(x.found(k), 0);
        }
    }
}
