import java.util.Arrays;

/** The edges that the points of the document's Terms name, a test for each. */
final class PointEdges extends Edges {
    private PointEdges() {
    }

    // ---- point 1: towns, roads, companies, lances

    static void point1_theDayIs0AtFirst() {
        due(new FreeLances().count(6), 0);
    }

    static void point1_daysGoTo3000() {
        FreeLances x = new FreeLances();
        until(x, 2999);
        due(x.days(1), 3000);
        due(x.days(1), BEYOND);
        due(x.count(6), 3000);
    }

    static void point1_atMost8Towns() {
        due(land(7, 0).town(0, 0), 7);
        refused(FULL, () -> land(8, 0), x -> x.town(0, 0));
    }

    static void point1_aWallIs100AndGunsAre0AtFirst() {
        FreeLances x = land(1, 0);
        due(x.townIs(0, 2), 100);
        due(x.townIs(0, 3), 0);
    }

    static void point1_aWallIs0To999() {
        range(0, 999, (x, v) -> x.wall(0, v, 5));
        FreeLances x = land(1, 0);
        x.wall(0, 999, 0);
        due(x.townIs(0, 2), 999);
        x.wall(0, 0, 0);
        due(x.townIs(0, 2), 0);
    }

    static void point1_gunsAre0To99() {
        range(0, 99, (x, v) -> x.wall(0, 5, v));
        FreeLances x = land(1, 0);
        x.wall(0, 0, 99);
        due(x.townIs(0, 3), 99);
        x.wall(0, 0, 0);
        due(x.townIs(0, 3), 0);
    }

    private static FreeLances withRoads(int roads) {
        FreeLances x = land(3, 0);
        for (int i = 0; i < roads; i++) {
            x.road(0, 1, 5);
        }
        return x;
    }

    static void point1_atMost16Roads() {
        due(withRoads(15).road(1, 2, 1), 16);
        refused(FULL, () -> withRoads(16), x -> x.road(1, 2, 1));
    }

    static void point1_aRoadTakes1To9Days() {
        range(1, 9, (x, v) -> x.road(0, 2, v));
        FreeLances x = land(3, 0);
        x.road(0, 1, 1);
        x.road(1, 2, 9);
        due(x.far(0, 1), 1);
        due(x.far(1, 2), 9);
    }

    static void point1_farIsTheFewestDaysOverAllTowns() {
        FreeLances x = land(8, 0);
        for (int i = 0; i < 7; i++) {
            x.road(i, i + 1, 9);
        }
        due(x.far(0, 7), 63);
        due(x.far(7, 0), 63);
        x.road(7, 1, 9);
        due(x.far(0, 7), 18);
        due(x.far(0, 4), 36);
        due(x.far(0, 5), 36);
    }

    static void point1_farIsOverRoadsAsTheyAre() {
        FreeLances x = land(2, 0);
        x.road(0, 1, 5);
        x.road(0, 1, 9);
        due(x.far(0, 1), 5);
        x.road(1, 0, 2);
        due(x.far(0, 1), 2);
    }

    static void point1_atMost5Companies() {
        due(land(1, 4).company(0, 0, 0), 4);
        refused(FULL, () -> land(1, 5), x -> x.company(0, 0, 0));
    }

    static void point1_aMarchTakesFarDays() {
        FreeLances x = land(3, 1);
        x.road(0, 1, 2);
        x.road(1, 2, 3);
        x.days(4);
        due(x.march(0, 2), 9);
        x.days(4);
        due(x.about(0, 0), -1);
        x.days(1);
        due(x.about(0, 0), 2);
        due(x.townIs(2, 4), 1);
    }

    static void point1_aMarchKeepsItsDayWhenARoadComes() {
        FreeLances x = land(2, 1);
        x.road(0, 1, 5);
        due(x.march(0, 1), 5);
        x.road(0, 1, 1);
        x.days(4);
        due(x.about(0, 0), -1);
        x.days(1);
        due(x.about(0, 0), 1);
    }

    private static FreeLances withLances(int lances) {
        FreeLances x = land(1, 2);
        lances(x, 0, lances);
        return x;
    }

    static void point1_atMost40Lances() {
        due(withLances(39).lance(1, 0, 100), 39);
        refused(FULL, () -> withLances(40), x -> x.lance(1, 0, 100));
    }

    static void point1_aMarkIs0To99() {
        range(0, 99, (x, v) -> x.lance(0, v, 100));
        FreeLances x = land(1, 1);
        x.lance(0, 99, 100);
        due(x.lanceIs(0, 1), 99);
    }

    static void point1_aHeightIs100To180() {
        range(100, 180, (x, v) -> x.lance(0, 0, v));
        FreeLances x = land(1, 1);
        x.lance(0, 0, 180);
        due(x.lanceIs(0, 2), 180);
    }

    static void point1_aLanceIsFitAtFirst() {
        FreeLances x = land(1, 1);
        x.lance(0, 0, 100);
        due(x.lanceIs(0, 3), 0);
        due(x.lanceIs(0, 4), -1);
    }

    // ---- point 2: a day ends

    /** One TOWN with so much BREAD, and one COMPANY with so much and so many LANCES in it. */
    private static FreeLances fed(int townBread, int ownBread, int lances) {
        FreeLances x = new FreeLances();
        x.town(0, townBread);
        x.company(0, 0, ownBread);
        lances(x, 0, lances);
        return x;
    }

    static void point2_whoComesLiesThereAheadOfEating() {
        FreeLances x = new FreeLances();
        x.town(0, 0);
        x.town(0, 5);
        x.road(0, 1, 1);
        x.company(0, 0, 0);
        x.lance(0, 0, 100);
        x.march(0, 1);
        x.days(1);
        due(x.about(0, 3), 0);
        due(x.townIs(1, 1), 4);
    }

    static void point2_companiesEatByNumbers() {
        FreeLances x = fed(1, 0, 0);
        x.company(0, 0, 0);
        x.lance(1, 0, 100);
        x.lance(0, 0, 100);
        x.days(1);
        due(x.about(0, 3), 0);
        due(x.about(1, 3), 1);
    }

    static void point2_itsOwnBreadIsEatenFirst() {
        FreeLances x = fed(5, 2, 1);
        x.days(2);
        due(x.about(0, 2), 0);
        due(x.townIs(0, 1), 5);
        x.days(1);
        due(x.townIs(0, 1), 4);
    }

    static void point2_whoMarchesEatsItsOwnAlone() {
        FreeLances x = new FreeLances();
        x.town(0, 50);
        x.town(0, 50);
        x.road(0, 1, 9);
        x.company(0, 0, 1);
        x.lance(0, 0, 100);
        x.march(0, 1);
        x.days(1);
        due(x.about(0, 3), 0);
        x.days(1);
        due(x.about(0, 3), 1);
        due(x.townIs(0, 1), 50);
        due(x.townIs(1, 1), 50);
    }

    static void point2_justEnoughIsNoHunger() {
        FreeLances x = fed(2, 1, 3);
        x.days(1);
        due(x.about(0, 3), 0);
        due(x.about(0, 2), 0);
        due(x.townIs(0, 1), 0);
    }

    static void point2_oneTooFewIsHunger() {
        FreeLances x = fed(1, 1, 3);
        x.days(1);
        due(x.about(0, 3), 1);
        due(x.about(0, 2), 0);
        due(x.townIs(0, 1), 0);
    }

    static void point2_sickOnesEatToo() {
        FreeLances x = fed(0, 0, 1);
        x.days(3);
        due(x.about(0, 5), 1);
        x.harvest(0, 5);
        x.days(1);
        due(x.townIs(0, 1), 4);
    }

    static void point2_whoIsAwayEatsNothing() {
        FreeLances x = land(2, 1);
        lances(x, 0, 2);
        x.take(1, 1);
        x.days(1);
        due(x.townIs(0, 1), 999);
        due(x.townIs(1, 1), 1000);
    }

    static void point2_theDeadEatNothing() {
        FreeLances x = fed(0, 0, 2);
        x.days(6);
        due(x.lanceIs(0, 3), 3);
        x.harvest(0, 5);
        x.days(1);
        due(x.townIs(0, 1), 4);
    }

    static void point2_withoutLancesThereIsNoHunger() {
        FreeLances x = fed(0, 0, 0);
        x.days(10);
        due(x.about(0, 3), 0);
        x = fed(0, 0, 1);
        x.days(6);
        due(x.about(0, 3), 6);
        due(x.lanceIs(0, 3), 3);
        x.days(1);
        due(x.about(0, 3), 0);
    }

    private static void dueHow(FreeLances x, int... how) {
        for (int i = 0; i < how.length; i++) {
            due(x.lanceIs(i, 3), how[i]);
        }
    }

    static void point2_hungerOf1And2ChangesNobody() {
        FreeLances x = fed(0, 0, 3);
        x.days(1);
        dueHow(x, 0, 0, 0);
        x.days(1);
        dueHow(x, 0, 0, 0);
    }

    static void point2_hungerOf3To5MakesTheLeastFitOneSick() {
        FreeLances x = fed(0, 0, 4);
        x.days(3);
        dueHow(x, 1, 0, 0, 0);
        x.days(1);
        dueHow(x, 1, 1, 0, 0);
        x.days(1);
        dueHow(x, 1, 1, 1, 0);
    }

    static void point2_hungerOf6OrMoreKillsTheLeastSickOne() {
        FreeLances x = fed(0, 0, 5);
        x.days(6);
        dueHow(x, 3, 1, 1, 0, 0);
        x.days(1);
        dueHow(x, 3, 3, 1, 0, 0);
        x.days(1);
        dueHow(x, 3, 3, 3, 0, 0);
    }

    static void point2_hungerOf6OrMoreWithoutASickOneIsNothing() {
        FreeLances x = fed(0, 0, 5);
        x.days(8);
        dueHow(x, 3, 3, 3, 0, 0);
        x.days(20);
        due(x.about(0, 3), 28);
        dueHow(x, 3, 3, 3, 0, 0);
    }

    static void point2_hungerOf3To5WithoutAFitOneIsNothing() {
        FreeLances x = fed(0, 0, 1);
        x.days(5);
        due(x.about(0, 3), 5);
        dueHow(x, 1);
    }

    static void point2_hungerOf0HealsTheLeastSickOne() {
        FreeLances x = fed(0, 0, 4);
        x.days(4);
        dueHow(x, 1, 1, 0, 0);
        x.harvest(0, 100);
        x.days(1);
        due(x.about(0, 3), 0);
        dueHow(x, 0, 1, 0, 0);
        x.days(1);
        dueHow(x, 0, 0, 0, 0);
    }

    static void point2_hungerOf1And2HealsNobody() {
        FreeLances x = fed(0, 0, 4);
        x.days(4);
        x.harvest(0, 4);
        x.days(2);
        due(x.about(0, 3), 1);
        dueHow(x, 0, 1, 0, 0);
        x.days(1);
        dueHow(x, 0, 1, 0, 0);
        x.days(1);
        due(x.about(0, 3), 3);
        dueHow(x, 1, 1, 0, 0);
    }

    static void point2_onlyLancesOfTheHungryCompanyFallSick() {
        FreeLances x = new FreeLances();
        x.town(0, 0);
        x.company(0, 0, 9);
        x.company(0, 0, 0);
        x.lance(0, 0, 100);
        x.lance(1, 1, 100);
        x.days(3);
        dueHow(x, 0, 1);
    }

    static void point2_aMonthIsADayThatDividesBy30() {
        FreeLances x = poor(1);
        x.contract(0, 0, 3000, 1);
        law(x, 1, 0, "1");
        int[][] owed = {{29, 0}, {30, 1}, {31, 1}, {59, 1}, {60, 2}, {61, 2}, {89, 2}, {90, 3}};
        for (int[] row : owed) {
            until(x, row[0]);
            due(x.bondIs(0, 7), row[1]);
        }
    }

    static void point2_day3000IsAMonth() {
        FreeLances x = poor(1);
        x.contract(0, 2971, 3000, 1);
        law(x, 1, 0, "1");
        until(x, 2999);
        due(x.bondIs(0, 7), 0);
        until(x, 3000);
        due(x.bondIs(0, 7), 1);
    }

    // ---- point 3: texts and statutes

    private static void says(String text, int h, int m, int want) {
        FreeLances x = new FreeLances();
        int statute = law(x, 0, 0, text);
        due(statute == 0 ? x.says(0, h, m, 0) : statute, want);
    }

    private static void says(String text, int want) {
        says(text, 0, 0, want);
    }

    private static void fault(String text, int place) {
        FreeLances x = new FreeLances();
        due(law(x, 0, 0, text), -10 - place);
        due(x.count(4), 0);
        due(x.count(7), 0);
    }

    static void point3_theTapeHasAtMost50Bytes() {
        FreeLances x = new FreeLances();
        feed(x, "11" + "+1".repeat(23));
        due(x.count(7), 48);
        due(x.feed('1', 1), 49);
        due(x.feed('1', 1), 50);
        due(x.feed('1', 1), FULL);
        due(x.count(7), 50);
    }

    static void point3_aTextMayHave50Bytes() {
        says("11" + "+1".repeat(24), 35);
        fault("11" + "+1".repeat(23) + "++", 49);
        fault("111" + "+1".repeat(23) + "+", 50);
    }

    static void point3_aNumberHas1To4Digits() {
        says("0", 0);
        says("9999", 9999);
        says("0009", 9);
        fault("99999", 4);
        fault("00000", 4);
        fault("1+12345", 6);
    }

    static void point3_anEmptyTapeIsFault0() {
        fault("", 0);
    }

    static void point3_aTextThatEndsTooEarlyIsFaultAtItsEnd() {
        fault("1+", 2);
        fault("1*", 2);
        fault("h<", 2);
        fault("1&", 2);
        fault("1|", 2);
        fault("!", 1);
        fault("(", 1);
        fault("(1", 2);
        fault("((1)", 4);
    }

    static void point3_theFaultIsTheFirstByteWithWhichNoTextGoesOn() {
        fault("+1", 0);
        fault("-1", 0);
        fault("1++2", 2);
        fault("1+*2", 2);
        fault("1)", 1);
        fault("()", 1);
        fault("1(2)", 1);
        fault("1!2", 1);
        fault("hm", 1);
        fault("1h", 1);
        fault("h1", 1);
        fault("!)", 1);
        fault("(1))", 3);
        fault("1+)+)", 2);
        fault("<<", 0);
        fault("<1", 0);
        fault(")(", 0);
    }

    static void point3_thereAreNoBlanks() {
        fault(" 1", 0);
        fault("1 ", 1);
        fault("1 +2", 1);
        fault("1+ 2", 2);
    }

    static void point3_bytesBeyondTheSignsAreFaults() {
        fault("\u0000", 0);
        fault("\u00ff", 0);
        fault("1\u00ff", 1);
        fault("\u00b1", 0);
        fault("\u00e8", 0);
        fault("1\u00ab1", 1);
        fault("/", 0);
        fault(":", 0);
    }

    static void point3_atMostOneComparisonStandsInAnA() {
        says("1<2&2<3", 1);
        says("(1<2)<3", 1);
        fault("1<2<3", 3);
        fault("1<2=3", 3);
        fault("1>2>3", 3);
        fault("1=1=1", 3);
    }

    static void point3_5AreOpenAtOnce() {
        says("!!!!!1", 0);
        says("(((((7)))))", 7);
        says("!(!(!0))", 1);
        says("((((!0))))", 1);
        says("!!!!(7)", 1);
    }

    static void point3_aSixthThatIsOpenIsTheFault() {
        fault("!!!!!!1", 5);
        fault("((((((1))))))", 5);
        fault("!(!(!(1)))", 5);
        fault("(((((!1)))))", 5);
        fault("!!!!!(1)", 5);
        fault("1+(2*(3+(4*(5+(6*(7", 17);
    }

    static void point3_whatIsClosedIsOpenNoMore() {
        says("(((((1)))))+(((((2)))))", 3);
        says("!!!!!0+!!!!!0", 2);
        says("((((!1+(7)))))", 7);
        says("(((((1)+(2)))))", 3);
        says("!!!!!0*(((((5)))))", 5);
    }

    static void point3_intsWrap() {
        says("h+m", GREATEST, 1, LEAST);
        says("h-m", LEAST, 1, GREATEST);
        says("h*m", GREATEST, 2, -2);
        says("h*m", 65536, 65536, 0);
        says("0-h", LEAST, 0, LEAST);
        says("9999*9999*9999", -1027349969);
    }

    static void point3_quotientsAreCut() {
        says("7/2", 3);
        says("(0-7)/2", -3);
        says("7/(0-2)", -3);
        says("(0-7)/(0-2)", 3);
        says("1/2", 0);
        says("h/m", LEAST, 2, -1073741824);
    }

    static void point3_theLeastIntByMinus1GoesRound() {
        says("h/m", LEAST, -1, LEAST);
    }

    static void point3_by0ItIs0() {
        says("5/0", 0);
        says("0/0", 0);
        says("h/m", LEAST, 0, 0);
        says("5/(3-3)*9+1", 1);
    }

    static void point3_truthIs1Or0() {
        says("7|0", 1);
        says("0|7", 1);
        says("0|0", 0);
        says("7&9", 1);
        says("7&0", 0);
        says("0&7", 0);
        says("!7", 0);
        says("!0", 1);
        says("!!7", 1);
        says("7", 7);
    }

    static void point3_whatIsBelow0IsTrueToo() {
        says("(0-1)|0", 1);
        says("(0-1)&(0-2)", 1);
        says("!(0-1)", 0);
    }

    static void point3_comparisonsAtTheirEdges() {
        says("1<2", 1);
        says("2<2", 0);
        says("3<2", 0);
        says("1=2", 0);
        says("2=2", 1);
        says("1>2", 0);
        says("2>2", 0);
        says("3>2", 1);
        // No difference is taken, which would wrap.
        says("h<m", LEAST, GREATEST, 1);
        says("h>m", GREATEST, LEAST, 1);
        says("h<m", GREATEST, LEAST, 0);
    }

    static void point3_whatBindsTighterIsWorkedOutFirst() {
        says("1+2*3", 7);
        says("2*3+1", 7);
        says("1|0&0", 1);
        says("0&0|1", 1);
        says("1+1<3", 1);
        says("3>1+1", 1);
        says("2=2&3", 1);
        says("!0+5", 6);
        says("!1*5", 0);
    }

    static void point3_equalsAreWorkedOutFromTheLeft() {
        says("9-3-2", 4);
        says("9-3+2", 8);
        says("100/7/2", 7);
        says("100/7*2", 28);
        says("7*3/2", 10);
    }

    static void point3_atMost12Statutes() {
        FreeLances x = new FreeLances();
        for (int i = 0; i < 12; i++) {
            due(law(x, i % 4, 0, "1"), i);
        }
        due(law(x, 0, 0, "1"), FULL);
        due(x.count(4), 12);
        refused(FULL, PointEdges::manyStatutes, y -> y.statute(0, 0));
    }

    private static FreeLances manyStatutes() {
        FreeLances x = land(2, 2);
        for (int i = 0; i < 12; i++) {
            law(x, 0, i, "h+1");
        }
        feed(x, "h*");
        return x;
    }

    static void point3_inForceFromItsDayOn() {
        FreeLances x = new FreeLances();
        law(x, 1, 10, "1");
        due(x.force(1, 9), NONE);
        due(x.force(1, 10), 0);
        due(x.force(1, 3000), 0);
    }

    static void point3_inForceIsTheOneMadeLast() {
        FreeLances x = new FreeLances();
        law(x, 1, 10, "1");
        law(x, 1, 5, "2");
        law(x, 1, 20, "3");
        law(x, 2, 0, "4");
        due(x.force(1, 4), NONE);
        due(x.force(1, 5), 1);
        due(x.force(1, 10), 1);
        due(x.force(1, 19), 1);
        due(x.force(1, 20), 2);
    }

    static void point3_eachUseHasItsNamesAlone() {
        String[] names = {"hms", "np", "lo", "c"};
        String signs = "hmsnplocHMSNPLOCabdefgijkqrtuvwxyz";
        for (int use = 0; use < 4; use++) {
            for (int i = 0; i < signs.length(); i++) {
                FreeLances x = new FreeLances();
                boolean its = names[use].indexOf(signs.charAt(i)) >= 0;
                due(law(x, use, 0, signs.substring(i, i + 1)), its ? 0 : -10);
            }
        }
    }

    /** What a MUSTER counts of MARK 1, whose LANCE is SICK, and MARK 2, whose is FIT, by a law. */
    private static int counted(String law) {
        FreeLances x = fed(0, 0, 0);
        x.lance(0, 1, 100);
        x.lance(0, 2, 180);
        x.days(3);
        if (law != null) {
            law(x, 0, 0, law);
        }
        fill(x, 0, 8, 1, 2);
        return x.muster(0, 0);
    }

    static void point3_lanceWhatIsNot0Counts() {
        due(counted("1"), 2);
        due(counted("0"), 0);
        due(counted("0-1"), 2);
        due(counted("s"), 1);
        due(counted("s-1"), 1);
        due(counted("h-100"), 1);
        due(counted("h-180"), 1);
        due(counted("m=1"), 1);
        due(counted("m<1"), 0);
    }

    static void point3_lanceWithoutALawFitOnesCount() {
        due(counted(null), 1);
    }

    static void point3_payWithoutALawIsNTimesP() {
        FreeLances x = poor(1);
        lances(x, 0, 3);
        fill(x, 0, 8, 0, 1, 2);
        due(x.muster(0, 0), 3);
        x.contract(0, 0, 100, 999);
        x.contract(0, 0, 100, 0);
        x.days(30);
        due(x.bondIs(0, 7), 2997);
        due(x.bondIs(1, 7), 0);
    }

    static void point3_payHasItsNumbers() {
        FreeLances x = poor(1);
        lances(x, 0, 3);
        fill(x, 0, 8, 0, 1, 2);
        x.muster(0, 0);
        x.contract(0, 0, 100, 7);
        law(x, 1, 0, "n*100+p");
        x.days(30);
        due(x.bondIs(0, 7), 307);
    }

    /** Whether a man may leave so many days since something is OWED, which is 5. */
    private static int leaves(int late, String law) {
        FreeLances x = owing("5*(n+1)");
        x.lance(0, 1, 100);
        law(x, 1, 0, "0");
        if (law != null) {
            law(x, 2, 0, law);
        }
        until(x, 30 + late);
        return x.over(0, 1);
    }

    static void point3_leaveWithoutALawIsAbove60() {
        due(leaves(0, null), STATE);
        due(leaves(60, null), STATE);
        due(leaves(61, null), 0);
    }

    static void point3_leaveWhatIsNot0LetsThem() {
        due(leaves(0, "1"), 0);
        due(leaves(0, "0-1"), 0);
        due(leaves(61, "0"), STATE);
        due(leaves(7, "l=7"), 0);
        due(leaves(7, "l>7"), STATE);
        due(leaves(7, "o=5"), 0);
        due(leaves(7, "o>5"), STATE);
    }

    private static int shared(String law, int c) {
        FreeLances x = new FreeLances();
        law(x, 3, 0, law);
        return x.share(c);
    }

    static void point3_shareIs0AtLeastAndCAtMost() {
        due(shared("c", 50), 50);
        due(shared("c+1", 50), 50);
        due(shared("c-1", 50), 49);
        due(shared("0", 50), 0);
        due(shared("1", 50), 1);
        due(shared("0-1", 50), 0);
        due(shared("5", 0), 0);
        due(shared("c*c", 99999), 99999);
        due(shared("c*9999*9999*9999", 1), 0);
    }

    static void point3_shareWithoutALawIsAThird() {
        FreeLances x = new FreeLances();
        int[][] thirds = {{0, 0}, {1, 0}, {2, 0}, {3, 1}, {5, 1}, {99998, 33332}, {99999, 33333}};
        for (int[] row : thirds) {
            due(x.share(row[0]), row[1]);
        }
    }

    // ---- point 4: bonds

    static void point4_atMost24BondsOfAllKinds() {
        FreeLances x = bound();
        due(x.count(5), 24);
        refused(FULL, Edges::bound, y -> y.contract(0, 0, 1, 0));
        refused(FULL, Edges::bound, y -> y.renew(1, 1, 0));
        refused(FULL, Edges::bound, y -> y.advance(0, 1));
        refused(FULL, Edges::bound, y -> y.truce(0, 1, 0, 1));
        refused(FULL, Edges::bound, y -> y.safe(0, 1, 0, 1, 1));
        refused(FULL, Edges::bound, y -> y.ransom(0, 1));
    }

    static void point4_the24thBondStands() {
        FreeLances x = land(2, 2);
        for (int i = 0; i < 23; i++) {
            x.contract(0, i, i, 1);
        }
        x.image();
        due(x.contract(0, 0, 1, 0), 23);
        x.restore();
        due(x.renew(1, 1, 0), 23);
        x.restore();
        due(x.advance(0, 1), 23);
        x.restore();
        due(x.truce(0, 1, 0, 1), 23);
        x.restore();
        due(x.safe(0, 1, 0, 1, 1), 23);
        x.restore();
        x.lance(0, 1, 100);
        x.take(1, 0);
        due(x.ransom(0, 1), 23);
        due(x.bondIs(23, 0), 5);
    }

    static void point4_advancesAndRansomsHaveNoDays() {
        FreeLances x = rich();
        for (int bond : new int[] {2, 6}) {
            due(x.bondIs(bond, 2), -1);
            due(x.bondIs(bond, 3), -1);
        }
    }

    static void point4_eachKindIsUnderItsOwn() {
        // In rich() BONDS 0 to 6 are a CONTRACT, a RENEWAL, an ADVANCE, a TRUCE, a SAFE, a CONTRACT, a RANSOM.
        int[] kinds = {1, 2, 3, 4, 6, 1, 5};
        FreeLances x = rich();
        for (int bond = 0; bond < kinds.length; bond++) {
            due(x.bondIs(bond, 0), kinds[bond]);
            for (int kind = 0; kind <= 6; kind++) {
                boolean is = kind == kinds[bond] || kind == 0 || kind == 1 && kinds[bond] == 2;
                due(x.as(bond, kind) == KIND ? 0 : 1, is ? 1 : 0);
            }
        }
    }

    static void point4_aRenewalBeginsBehindTheLastDay() {
        FreeLances x = land(3, 2);
        x.contract(131, 5, 9, 77);
        x.renew(0, 1, 0);
        int[] due = {2, 1, 10, 10, 1, 2, 0, 0, -1, 0};
        for (int what = 0; what < due.length; what++) {
            due(x.bondIs(1, what), due[what]);
        }
        due(x.as(1, 0), 77);
        x.renew(1, 400, 1);
        due(x.bondIs(2, 2), 11);
        due(x.bondIs(2, 3), 410);
        due(x.bondIs(2, 6), 1);
    }

    static void point4_eachIsRenewedOnce() {
        FreeLances x = land(1, 1);
        x.contract(0, 0, 9, 1);
        due(x.renew(0, 5, 0), 1);
        due(x.renew(0, 5, 1), STATE);
        due(x.renew(1, 5, 0), 2);
        due(x.renew(1, 5, 0), STATE);
    }

    private static int owedOf(String law) {
        return owing(law).bondIs(0, 7);
    }

    static void point4_dueIs0AtLeast() {
        due(owedOf("0"), 0);
        due(owedOf("1"), 1);
        due(owedOf("0-1"), 0);
        due(owing("0-1").bondIs(0, 8), -1);
        FreeLances x = owing("50");
        law(x, 1, 0, "0-20");
        x.days(30);
        due(x.bondIs(0, 7), 50);
    }

    static void point4_dueIs99999AtMost() {
        due(owedOf("9999*10+8"), 99998);
        due(owedOf("9999*10+9"), 99999);
        due(owedOf("9999*10+10"), 99999);
        due(owedOf("9999*9999"), 99999);
        FreeLances x = owing("9999*9999");
        x.days(30);
        due(x.bondIs(0, 7), 199998);
    }

    static void point4_dueThatWrapsBelow0Is0() {
        due(owedOf("9999*9999*9999"), 0);
    }

    static void point4_dueIsByPayAlsoForN0() {
        due(owedOf("n+7"), 7);
        due(owedOf("n*7"), 0);
    }

    static void point4_withoutALawAndAMusterNothingIsDue() {
        FreeLances x = poor(1);
        lances(x, 0, 3);
        x.contract(0, 0, 100, 999);
        x.days(30);
        due(x.bondIs(0, 7), 0);
        due(x.bondIs(0, 8), -1);
    }

    static void point4_theLatestMusterIsWhatCounts() {
        FreeLances x = poor(1);
        lances(x, 0, 3);
        x.contract(0, 0, 100, 10);
        fill(x, 0, 8, 0, 1, 2);
        x.muster(0, 0);
        x.sheet(0, 8, 1);
        x.muster(0, 0);
        lances(x, 0, 3);
        x.days(30);
        due(x.bondIs(0, 7), 10);
    }

    static void point4_aMonthIsOfContractsInWhoseDaysItIs() {
        FreeLances x = poor(1);
        law(x, 1, 0, "1");
        int[][] days = {{30, 30}, {0, 30}, {30, 59}, {0, 29}, {31, 59}, {29, 31}};
        for (int[] one : days) {
            x.contract(0, one[0], one[1], 1);
        }
        x.days(30);
        int[] owed = {1, 1, 1, 0, 0, 1};
        for (int bond = 0; bond < owed.length; bond++) {
            due(x.bondIs(bond, 7), owed[bond]);
        }
    }

    static void point4_aMonthIsOfRenewalsToo() {
        FreeLances x = poor(1);
        law(x, 1, 0, "1");
        x.contract(0, 0, 29, 1);
        x.renew(0, 1, 0);
        x.days(30);
        due(x.bondIs(0, 7), 0);
        due(x.bondIs(1, 7), 1);
    }

    /** 10 are due each MONTH, the TOWN has so much COIN behind an ADVANCE of so much. */
    private static FreeLances advanced(int advance, int coin) {
        FreeLances x = new FreeLances();
        x.town(advance + coin, 0);
        x.company(0, 0, 0);
        x.contract(0, 0, 100, 1);
        law(x, 1, 0, "10");
        if (advance > 0) {
            x.advance(0, advance);
        }
        x.days(30);
        return x;
    }

    private static void dueOf(FreeLances x, int owed, int left, int coin) {
        due(x.bondIs(0, 7), owed);
        due(x.bondIs(0, 9), left);
        due(x.townIs(0, 0), coin);
    }

    static void point4_advancesAreTakenOffAheadOfThePay() {
        dueOf(advanced(9, 50), 0, 0, 49);
        dueOf(advanced(10, 50), 0, 0, 50);
        dueOf(advanced(11, 50), 0, 1, 50);
        dueOf(advanced(1, 0), 9, 0, 0);
    }

    static void point4_whatIsLeftOfAdvancesStays() {
        FreeLances x = advanced(25, 50);
        dueOf(x, 0, 15, 50);
        x.days(30);
        dueOf(x, 0, 5, 50);
        x.days(30);
        dueOf(x, 0, 0, 45);
    }

    static void point4_advancesTogetherAreTakenOff() {
        FreeLances x = advanced(12, 50);
        x.advance(0, 3);
        dueOf(x, 0, 5, 47);
        x.days(30);
        dueOf(x, 0, 0, 42);
    }

    static void point4_advancesAreTakenOffWhatWasOwedToo() {
        FreeLances x = advanced(0, 0);
        dueOf(x, 10, 0, 0);
        x.company(0, 100, 0);
        x.harvest(0, 100);
        x.buy(1, 20);
        x.advance(0, 20);
        dueOf(x, 10, 20, 0);
        x.days(30);
        dueOf(x, 0, 0, 0);
        due(x.bondIs(0, 8), -1);
    }

    static void point4_theTownPaysAsMuchAsItCan() {
        dueOf(advanced(0, 0), 10, 0, 0);
        dueOf(advanced(0, 9), 1, 0, 0);
        dueOf(advanced(0, 10), 0, 0, 0);
        dueOf(advanced(0, 11), 0, 0, 1);
        due(advanced(0, 9).about(0, 1), 9);
    }

    static void point4_contractsArePaidByNumbers() {
        FreeLances x = new FreeLances();
        x.town(15, 0);
        x.company(0, 0, 0);
        x.company(0, 0, 0);
        x.contract(1, 0, 100, 1);
        x.contract(0, 0, 100, 1);
        law(x, 1, 0, "10");
        x.days(30);
        due(x.bondIs(0, 7), 0);
        due(x.bondIs(1, 7), 5);
        due(x.about(1, 1), 10);
        due(x.about(0, 1), 5);
    }

    static void point4_owedSinceIsTheFirstDay() {
        FreeLances x = owing("10");
        due(x.bondIs(0, 8), 30);
        x.days(30);
        due(x.bondIs(0, 7), 20);
        due(x.bondIs(0, 8), 30);
        x.stop(0, 19);
        due(x.bondIs(0, 8), 30);
        x.stop(0, 1);
        due(x.bondIs(0, 8), -1);
        x.days(30);
        due(x.bondIs(0, 8), 90);
    }

    static void point4_ofWhichNothingIsOwedHasNoSince() {
        FreeLances x = advanced(0, 10);
        due(x.bondIs(0, 7), 0);
        due(x.bondIs(0, 8), -1);
    }

    static void point4_owedStaysBehindTheLastDay() {
        FreeLances x = poor(1);
        law(x, 1, 0, "10");
        x.contract(0, 0, 30, 1);
        x.days(60);
        due(x.bondIs(0, 7), 10);
        due(x.bondIs(0, 8), 30);
    }

    static void point4_servesIsTheContractOfTheLeastNumber() {
        FreeLances x = land(2, 1);
        x.contract(100, 10, 20, 1);
        x.contract(0, 5, 30, 1);
        int[][] serves = {{4, NONE}, {5, 0}, {9, 0}, {10, 1}, {20, 1}, {21, 0}, {30, 0}, {31, NONE}};
        for (int[] row : serves) {
            due(x.serves(0, row[0]), row[1]);
        }
    }

    /** How many CLASHES two CONTRACTS of parties and days make. */
    private static int clashes(int one, int first, int last, int two, int begins, int ends) {
        FreeLances x = land(3, 3);
        x.contract(one, first, last, 1);
        x.contract(two, begins, ends, 1);
        return x.count(12);
    }

    static void point4_clash1NeedsADayInBoth() {
        due(clashes(0, 10, 20, 100, 20, 30), 1);
        due(clashes(0, 10, 20, 100, 21, 30), 0);
        due(clashes(0, 10, 20, 100, 0, 10), 1);
        due(clashes(0, 10, 20, 100, 0, 9), 0);
        due(clashes(0, 0, 0, 100, 0, 0), 1);
        due(clashes(0, 3000, 3000, 100, 3000, 3000), 1);
    }

    static void point4_clash1IsOfOneCompanyAndUnlikeTowns() {
        due(clashes(0, 0, 10, 0, 0, 10), 0);
        due(clashes(0, 0, 10, 101, 0, 10), 0);
        due(clashes(20, 0, 10, 30, 0, 10), 0);
        due(clashes(0, 0, 10, 200, 0, 10), 1);
    }

    private static int clashesWithSafe(int parties, int first, int last) {
        FreeLances x = land(3, 3);
        x.safe(0, 1, 10, 20, 1);
        x.contract(parties, first, last, 1);
        return x.count(12);
    }

    static void point4_clash2NeedsADayInBoth() {
        due(clashesWithSafe(20, 20, 30), 1);
        due(clashesWithSafe(20, 21, 30), 0);
        due(clashesWithSafe(20, 0, 10), 1);
        due(clashesWithSafe(20, 0, 9), 0);
    }

    static void point4_clash2IsOfItsCompanyAndTheFoe() {
        due(clashesWithSafe(0, 0, 100), 0);
        due(clashesWithSafe(30, 0, 100), 0);
        due(clashesWithSafe(21, 0, 100), 0);
        due(clashesWithSafe(100, 0, 100), 0);
        due(clashesWithSafe(110, 0, 100), 0);
    }

    /** COMPANY 0 serves against TOWN 1 on days 10 .. 20, and has a TRUCE with COMPANY 1 on days 15 .. 25. */
    private static FreeLances truced(int parties, int first, int last) {
        FreeLances x = land(3, 3);
        x.contract(20, 10, 20, 1);
        x.truce(0, 1, 15, 25);
        x.contract(parties, first, last, 1);
        return x;
    }

    static void point4_clash3NeedsADayInAllThree() {
        due(truced(101, 20, 30).count(12), 1);
        due(truced(101, 20, 30).clash(0, 2), 20);
        due(truced(101, 21, 30).count(12), 0);
        due(truced(101, 0, 15).count(12), 1);
        due(truced(101, 0, 15).clash(0, 2), 15);
        due(truced(101, 0, 14).count(12), 0);
        due(truced(101, 17, 18).clash(0, 2), 17);
    }

    static void point4_clash3IsWithOneThatServesTheFoe() {
        due(truced(201, 0, 100).count(12), 0);
        due(truced(102, 0, 100).count(12), 0);
        due(truced(1, 0, 100).count(12), 0);
        due(truced(101, 0, 100).clash(0, 0), 0);
        due(truced(101, 0, 100).clash(0, 1), 1);
    }

    static void point4_clash3IsOfATruceOfItsCompany() {
        // COMPANIES 1 and 2 have a TRUCE, and COMPANY 1 serves the FOE: that is nothing to COMPANY 0.
        FreeLances x = land(3, 3);
        x.contract(20, 0, 100, 1);
        x.truce(1, 2, 0, 100);
        x.truce(2, 1, 0, 100);
        x.contract(101, 0, 100, 1);
        x.contract(102, 0, 100, 1);
        due(x.count(12), 0);
    }

    static void point4_clash3IsOfEitherCompanyOfATruce() {
        FreeLances x = land(3, 3);
        x.contract(101, 0, 100, 1);
        x.truce(1, 0, 10, 20);
        x.contract(20, 15, 30, 1);
        due(x.count(12), 1);
        due(x.clash(0, 0), 1);
        due(x.clash(0, 1), 2);
        due(x.clash(0, 2), 15);
    }

    static void point4_theFoeMayBeTown0() {
        FreeLances x = land(2, 2);
        x.contract(110, 0, 9, 1);
        x.safe(0, 0, 9, 20, 0);
        x.truce(0, 1, 0, 5);
        x.contract(1, 5, 9, 1);
        int[][] due = {{0, 1, 9}, {0, 2, 5}};
        for (int i = 0; i < due.length; i++) {
            for (int what = 0; what <= 2; what++) {
                due(x.clash(i, what), due[i][what]);
            }
        }
        due(x.count(12), 2);
    }

    static void point4_clash3MayBeginOnDay0() {
        FreeLances x = land(2, 2);
        x.contract(1, 0, 9, 1);
        x.contract(110, 0, 9, 1);
        x.truce(0, 1, 0, 9);
        x.contract(1, 5, 9, 1);
        due(x.count(12), 1);
        due(x.clash(0, 2), 0);
    }

    static void point4_clash3IsOfTwoBondsHoweverManyContractsMakeIt() {
        FreeLances x = truced(101, 18, 30);
        x.contract(101, 16, 17, 1);
        x.contract(101, 19, 40, 1);
        due(x.count(12), 1);
        due(x.clash(0, 2), 16);
    }

    static void point4_bondsWithoutDaysDoNotClash() {
        FreeLances x = land(2, 1);
        x.lance(0, 1, 100);
        x.contract(20, 0, 3000, 1);
        x.advance(0, 5);
        x.take(1, 0);
        x.ransom(0, 5);
        due(x.count(12), 0);
    }

    // ---- point 5: musters

    private static int mustered(int numbers) {
        FreeLances x = land(1, 1);
        lances(x, 0, 20);
        int[] marks = new int[numbers];
        for (int i = 0; i < numbers; i++) {
            marks[i] = i;
        }
        fill(x, 0, 8, marks);
        return x.muster(0, 0);
    }

    static void point5_atMost12Numbers() {
        due(mustered(0), 0);
        due(mustered(1), 1);
        due(mustered(12), 12);
        due(mustered(13), KIND);
        due(mustered(24), KIND);
    }

    static void point5_minus1IsTheMarkOfThatPlace() {
        FreeLances x = land(1, 1);
        lances(x, 0, 5);
        fill(x, 0, 8, 1, 2, 3);
        fill(x, 1, 8, -1, -1, -1, -1);
        due(x.muster(0, 0), 3);
        due(x.muster(0, 1), 3);
        fill(x, 0, 8, 4, -1);
        due(x.muster(0, 0), 2);
        // The third place is gone with the MUSTER that had but two.
        due(x.muster(0, 1), 2);
    }

    static void point5_minus1WithoutAMusterIsNone() {
        FreeLances x = land(1, 2);
        lances(x, 0, 3);
        fill(x, 0, 8, -1, -1);
        due(x.muster(0, 0), 0);
        due(x.muster(0, 0), 0);
        x.muster(1, 0);
        due(x.shown(0), NONE);
    }

    static void point5_eachNumberCountsOnce() {
        FreeLances x = land(1, 1);
        x.lance(0, 7, 100);
        x.lance(0, 7, 100);
        fill(x, 0, 8, 7, 7, 7);
        due(x.muster(0, 0), 1);
        // Also if the one is told and the other stood at its place.
        fill(x, 0, 8, 7, -1, -1);
        due(x.muster(0, 0), 1);
    }

    static void point5_ofSeveralTheLeastLanceIsAsked() {
        FreeLances x = land(2, 1);
        x.lance(0, 7, 100);
        x.lance(0, 7, 150);
        fill(x, 0, 8, 7);
        law(x, 0, 0, "h>120");
        due(x.muster(0, 0), 0);
        law(x, 0, 0, "h<120");
        due(x.muster(0, 0), 1);
        x.take(1, 0);
        due(x.muster(0, 0), 0);
    }

    static void point5_onlyFitAndSickOnesOfTheCompanyCount() {
        FreeLances x = new FreeLances();
        x.town(0, 0);
        x.town(0, 0);
        x.company(0, 0, 0);
        x.company(0, 0, 0);
        for (int mark = 1; mark <= 5; mark++) {
            x.lance(0, mark, 100);
        }
        x.lance(1, 6, 100);
        law(x, 0, 0, "1");
        x.days(6);
        x.take(1, 4);
        dueHow(x, 3, 1, 1, 0, 2);
        fill(x, 0, 8, 1, 2, 3, 4, 5, 6, 0, 99);
        due(x.muster(0, 0), 3);
    }

    /** How MARK 3 is TWICE: shown in TOWN 0, and so many days behind that in TOWN 1, which is 3 days away. */
    private static int twiceBehind(int days) {
        FreeLances x = land(2, 1);
        x.company(1, 0, 0);
        x.road(0, 1, 3);
        fill(x, 0, 8, 3);
        x.muster(0, 0);
        until(x, days);
        x.muster(1, 0);
        due(x.twice(3, 1, 0), x.twice(3, 0, 1));
        return x.twice(3, 0, 1);
    }

    static void point5_sureIfFewerDaysThanFarWentBy() {
        due(twiceBehind(0), 2);
        due(twiceBehind(2), 2);
        due(twiceBehind(3), 1);
        due(twiceBehind(4), 1);
    }

    static void point5_theDaysBetweenAreCountedEitherWay() {
        FreeLances x = land(2, 1);
        x.company(1, 0, 0);
        x.road(0, 1, 3);
        fill(x, 0, 8, 3);
        until(x, 10);
        x.muster(1, 0);
        until(x, 12);
        x.muster(0, 0);
        due(x.twice(3, 0, 1), 2);
        due(x.twice(3, 1, 0), 2);
        until(x, 13);
        x.muster(0, 0);
        due(x.twice(3, 0, 1), 1);
        due(x.twice(3, 1, 0), 1);
    }

    static void point5_mayBeInOneTownOnOneDay() {
        FreeLances x = land(1, 2);
        fill(x, 0, 8, 3);
        x.muster(0, 0);
        x.muster(1, 0);
        due(x.twice(3, 0, 1), 1);
    }

    static void point5_sureIfNoWayLeadsThere() {
        FreeLances x = land(2, 1);
        x.company(1, 0, 0);
        fill(x, 0, 8, 3);
        x.muster(0, 0);
        until(x, 3000);
        x.muster(1, 0);
        due(x.twice(3, 0, 1), 2);
        x.road(0, 1, 9);
        due(x.twice(3, 0, 1), 1);
    }

    static void point5_theTownsAreThoseOfTheMusters() {
        FreeLances x = land(2, 1);
        x.company(1, 0, 0);
        x.road(0, 1, 3);
        fill(x, 0, 8, 3);
        x.muster(0, 0);
        x.muster(1, 0);
        x.march(0, 1);
        x.days(3);
        due(x.twice(3, 0, 1), 2);
    }

    // ---- point 6: walls, asking, parts

    private static int held(int wall, int townGuns, int guns, boolean twice) {
        FreeLances x = land(1, 1);
        lances(x, 0, 2);
        x.wall(0, wall, townGuns);
        return x.hold(0, 0, guns, twice);
    }

    static void point6_aWallFallsAtTheEndOfADay() {
        due(held(10, 0, 10, false), 1);
        due(held(11, 0, 10, false), 2);
        due(held(9, 0, 10, false), 1);
        // At 0 within the day, but above it at its end.
        due(held(10, 10, 10, false), 2);
        due(held(10, 10, 11, false), 1);
    }

    static void point6_aWallOf0FallsOnTheFirstDay() {
        due(held(0, 0, 0, false), 1);
        due(held(0, 99, 0, false), 1);
    }

    static void point6_aHoldHasAtMost400Days() {
        due(held(399, 0, 1, false), 399);
        due(held(400, 0, 1, false), 400);
        due(held(401, 0, 1, false), NONE);
        due(held(802, 19, 3, false), NONE);
        due(held(800, 19, 3, false), 400);
    }

    static void point6_gunsBy10AreCut() {
        due(held(20, 9, 1, false), 20);
        due(held(20, 10, 1, false), NONE);
        due(held(20, 19, 2, false), 20);
        due(held(20, 20, 2, false), NONE);
        due(held(20, 99, 10, false), 20);
        due(held(20, 99, 9, false), NONE);
    }

    static void point6_aWallIsNeverAboveWhatItWas() {
        due(held(5, 99, 0, false), NONE);
        due(held(5, 90, 14, false), 1);
        due(held(9, 90, 14, false), 2);
    }

    static void point6_doublePayAddsTheFitLances() {
        due(held(10, 0, 3, false), 4);
        due(held(10, 0, 3, true), 2);
        due(held(10, 0, 0, true), 5);
        due(held(10, 0, 0, false), NONE);
        FreeLances x = new FreeLances();
        x.town(0, 0);
        x.company(0, 0, 0);
        lances(x, 0, 2);
        x.days(3);
        due(x.about(0, 5), 1);
        due(x.hold(0, 0, 0, true), 100);
    }

    private static int asked(int coin, int what, int... numbers) {
        FreeLances x = new FreeLances();
        x.town(coin, 0);
        fill(x, 0, 32, numbers);
        return x.ask(0, 0, what);
    }

    static void point6_aTownPaysAsLongAsItHasTheCoin() {
        due(asked(50, -1, 50, 90, 0), 50);
        due(asked(50, 0, 50, 90, 0), 1);
        due(asked(49, -1, 50, 90, 0), 90);
        due(asked(49, 0, 50, 90, 0), 0);
        due(asked(100, -1, 50, 90, 0, 50, 90, 0), 100);
        due(asked(99, -1, 50, 90, 0, 50, 90, 0), 140);
        due(asked(0, -1, 0, 90, 0), 0);
    }

    static void point6_allThatComeBehindAskMore() {
        due(asked(999, -1, 10, 500, 5, 10, 500, 3, 10, 500, 7, 10, 500, 9999), 10 + 15 + 18 + 25);
        // Who isn't paid doesn't raise what the others ask.
        due(asked(999, -1, 10, 0, 9999, 10, 500, 0), 10);
    }

    static void point6_ofEqualWaysTheFirstUnlikeOneIsNotPaid() {
        due(asked(999, 0, 50, 50, 0), 0);
        due(asked(60, 0, 60, 80, 0, 60, 80, 0), 0);
        due(asked(60, 1, 60, 80, 0, 60, 80, 0), 1);
        due(asked(999, 0, 0, 0, 0), 0);
        int[] alike = {0, 0, 0, 0, 0, 0, 0, 0, 0, 0, 0, 0};
        for (int i = 0; i < 4; i++) {
            due(asked(999, i, alike), 0);
        }
    }

    private static void dueParts(int sum, int[] numbers, int... parts) {
        FreeLances x = new FreeLances();
        fill(x, 0, 16, numbers);
        for (int i = 0; i < parts.length; i++) {
            due(x.parts(sum, 0, i), parts[i]);
        }
    }

    static void point6_whatIsLeftGoesToTheGreatestRemainders() {
        dueParts(10, new int[] {1, 1, 1}, 4, 3, 3);
        dueParts(11, new int[] {1, 1, 1}, 4, 4, 3);
        dueParts(12, new int[] {1, 1, 1}, 4, 4, 4);
        dueParts(7, new int[] {3, 5, 3, 5}, 2, 2, 1, 2);
        dueParts(1, new int[] {1, 2, 2}, 0, 1, 0);
        dueParts(2, new int[] {1, 2, 2}, 0, 1, 1);
        dueParts(0, new int[] {1, 2, 2}, 0, 0, 0);
    }

    static void point6_aNumberOf0HasNothing() {
        dueParts(99999, new int[] {0, 7, 0, 6}, 0, 53846, 0, 46153);
        dueParts(5, new int[] {0, 1}, 0, 5);
    }

    static void point6_theGreatestPartsDoNotWrap() {
        int[] most = new int[24];
        Arrays.fill(most, 999);
        int[] parts = new int[24];
        for (int i = 0; i < 24; i++) {
            parts[i] = 99999 / 24 + (i < 99999 % 24 ? 1 : 0);
        }
        dueParts(99999, most, parts);
        dueParts(99999, new int[] {999, 1}, 99899, 100);
    }

    // ---- point 7: winter, hiring

    static void point7_winterCostsAre0AtFirst() {
        FreeLances x = land(8, 5);
        for (int company = 0; company < 5; company++) {
            for (int town = 0; town < 8; town++) {
                due(x.winter(company, town, 1), 0);
            }
        }
    }

    static void point7_winterCosts0To9999() {
        range(0, 9999, (x, v) -> x.winter(0, 0, v));
        FreeLances x = land(8, 5);
        for (int company = 0; company < 5; company++) {
            for (int town = 0; town < 8; town++) {
                x.winter(company, town, 9999);
            }
        }
        due(x.wintering(-1), 49995);
        for (int company = 0; company < 5; company++) {
            due(x.wintering(company), company);
        }
    }

    static void point7_noTwoWinterInOneTown() {
        FreeLances x = land(2, 2);
        x.winter(0, 1, 50);
        x.winter(1, 1, 60);
        due(x.wintering(-1), 50);
        due(x.wintering(0), 1);
        due(x.wintering(1), 0);
    }

    static void point7_ofEqualWinteringsCompany0IsInTheLeastTown() {
        FreeLances x = land(3, 3);
        for (int company = 0; company < 3; company++) {
            due(x.wintering(company), company);
        }
        x.winter(0, 0, 1);
        due(x.wintering(0), 1);
        due(x.wintering(1), 0);
        due(x.wintering(2), 2);
        // COMPANY 0 in TOWN 0 for 5 and COMPANY 1 in TOWN 1 for 0, or the other way round for 3 and 2.
        x = land(2, 2);
        x.winter(0, 0, 5);
        x.winter(0, 1, 3);
        x.winter(1, 0, 2);
        due(x.wintering(-1), 5);
        due(x.wintering(0), 0);
    }

    private static int hired(int what, int... numbers) {
        FreeLances x = land(1, 3);
        lances(x, 0, 2);
        lances(x, 1, 3);
        lances(x, 2, 3);
        fill(x, 0, 32, numbers);
        return x.hiring(0, what);
    }

    static void point7_aThreatIsMetByJustSoMany() {
        due(hired(0, 2, 999, 1), 0);
        due(hired(-1, 2, 999, 1), 12);
        due(hired(0, 3, 999, 1), 1);
        due(hired(-1, 3, 999, 1), 13);
        due(hired(0, 4, 999, 1), -1);
        due(hired(-1, 4, 999, 1), 999);
    }

    static void point7_aThreatOf0IsMetByNone() {
        due(hired(-1, 0, 999, 1), 0);
        due(hired(0, 0, 999, 1), -1);
    }

    static void point7_whoWasNotHiredTheSeasonAheadCosts10More() {
        due(hired(-1, 2, 999, 1, 2, 999, 1), 14);
        // To let it go for a SEASON saves as much as the 10 that it costs then: it isn't hired in that one.
        due(hired(-1, 2, 999, 1, 0, 0, 5, 2, 999, 1), 24);
        due(hired(1, 2, 999, 1, 0, 0, 5, 2, 999, 1), -1);
        due(hired(1, 2, 999, 1, 0, 0, 4, 2, 999, 1), 0);
        due(hired(-1, 2, 999, 1, 0, 0, 4, 2, 999, 1), 22);
    }

    static void point7_ofEqualHiringsNoneThenTheLesserCompany() {
        due(hired(0, 2, 12, 1), -1);
        due(hired(0, 2, 13, 1), 0);
        due(hired(0, 3, 14, 1), 1);
        due(hired(0, 1, 99, 0), 0);
    }

    static void point7_hiringIsFor1To5Seasons() {
        due(hired(-1, 2, 999, 1), 12);
        due(hired(-1, 2, 999, 1, 2, 999, 1, 2, 999, 1, 2, 999, 1, 2, 999, 1), 20);
        due(hired(4, 2, 999, 1, 2, 999, 1, 2, 999, 1, 2, 999, 1, 2, 999, 1), 0);
        due(hired(-1), KIND);
        due(hired(-1, new int[18]), KIND);
    }

    static void point7_allFiveCompaniesInAllFiveSeasons() {
        // COMPANY c has c + 1 LANCES, and SEASONS ask for 5, 4, 3, 2, 1: at 30 each the least that is enough.
        FreeLances x = land(1, 5);
        for (int company = 0; company < 5; company++) {
            lances(x, company, company + 1);
        }
        fill(x, 0, 32, 5, 999, 30, 4, 999, 30, 3, 999, 30, 2, 999, 30, 1, 999, 30);
        due(x.hiring(0, -1), 30 * 15 + 50);
        for (int season = 0; season < 5; season++) {
            due(x.hiring(0, season), 4 - season);
        }
        // At 9 each it is less to keep one with a LANCE too many than to hire another.
        fill(x, 0, 32, 5, 999, 9, 5, 999, 9, 4, 999, 9, 5, 999, 9, 1, 999, 9);
        due(x.hiring(0, -1), 9 * 20 + 10 + 9 + 10);
        int[] hired = {4, 4, 4, 4, 0};
        for (int season = 0; season < 5; season++) {
            due(x.hiring(0, season), hired[season]);
        }
        fill(x, 0, 32, 1, 15, 9, 0, 0, 9);
        due(x.hiring(0, -1), 15);
        due(x.hiring(0, 0), -1);
        due(x.hiring(0, 1), -1);
    }

    static void point7_theGreatestHiringDoesNotWrap() {
        FreeLances x = land(1, 1);
        lances(x, 0, 40);
        int[] most = new int[15];
        Arrays.fill(most, 9999);
        fill(x, 0, 32, most);
        due(x.hiring(0, -1), 5 * 9999);
        due(x.hiring(0, 4), -1);
    }

    // ---- point 8: voices

    static void point8_intsGoRound() {
        FreeLances x = rich();
        // BOND 5 is a CONTRACT with 5 of PAY, BOND 1 a RENEWAL with 400.
        due(x.voice(5, 0, GREATEST), LEAST + 4);
        due(x.voice(5, 1, GREATEST), (LEAST + 9) * 2);
        due(x.voice(5, 2, LEAST), (LEAST - 1) * 2 - 5);
        due(x.voice(1, 0, GREATEST), LEAST * 3);
        due(x.voice(2, 1, LEAST), LEAST - (LEAST + 2 + 50));
    }

    static void point8_aBodyIsThatOfTheKindOrOfOneAbove() {
        FreeLances x = rich();
        // bind of BONDS 0 .. 6 (CONTRACT, RENEWAL, ADVANCE, TRUCE, SAFE, CONTRACT, RANSOM) of 100.
        int[] binds = {100, 303, 102, 103, 104, 105, 106};
        int[] first = {10, 31, 10, 51, 10, 10, 10};
        for (int bond = 0; bond < binds.length; bond++) {
            due(x.voice(bond, 0, 100), binds[bond]);
            due(x.trace(0), first[bond]);
        }
    }

    static void point8_whatStandsLeftIsWorkedOutFirst() {
        FreeLances x = rich();
        x.voice(6, 2, 1);
        int[] ransom = {60, 11, 10, 12};
        for (int i = 0; i < ransom.length; i++) {
            due(x.trace(i), ransom[i]);
        }
        due(x.trace(ransom.length), NONE);
        x.voice(4, 3, 1);
        int[] safe = {70, 12, 13, 11, 10, 12};
        for (int i = 0; i < safe.length; i++) {
            due(x.trace(i), safe[i]);
        }
        due(x.trace(safe.length), NONE);
    }

    static void point8_theTraceIsOfTheLatestVoice() {
        FreeLances x = rich();
        due(x.count(8), 10);
        x.voice(0, 0, 1);
        due(x.count(8), 1);
        due(x.trace(1), NONE);
    }

    // ---- point 9: sheets

    static void point9_sheetsAre0To3() {
        range(0, 3, (x, v) -> x.sheet(v, 8, 1));
    }

    static void point9_sheetsAreMissingAtFirst() {
        FreeLances x = new FreeLances();
        for (int sheet = 0; sheet <= 3; sheet++) {
            due(x.put(sheet, 0, 0), NONE);
        }
    }

    static void point9_atMost24Numbers() {
        FreeLances x = new FreeLances();
        due(x.sheet(0, 8, 24), 1);
        due(x.put(0, 23, 1), 1);
        due(x.put(0, 24, 1), BEYOND);
        due(x.sheet(0, 8, 25), BEYOND);
        due(x.put(0, 23, 1), 1);
        due(x.sheet(0, 8, 0), 1);
        due(x.put(0, 0, 1), BEYOND);
    }
}
