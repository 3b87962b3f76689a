/** The edges of promises 43 and 44: days that end, and what is ahead. */
final class DayEdges extends Edges {
    private DayEdges() {
    }

    private static FreeLances late(int day) {
        FreeLances x = land(2, 2);
        x.contract(0, 0, 3000, 5);
        until(x, day);
        return x;
    }

    // ---- promise 43: days

    static void promise43_nIs1To200() {
        range(1, 200, (x, v) -> x.days(v));
        FreeLances x = new FreeLances();
        due(x.days(200), 200);
        due(x.days(1), 201);
    }

    static void promise43_theDayIsNotAbove3000() {
        due(late(2800).days(200), 3000);
        refused(BEYOND, () -> late(2801), x -> x.days(200));
        due(late(2999).days(1), 3000);
        refused(BEYOND, () -> late(3000), x -> x.days(1));
        refused(BEYOND, () -> late(2999), x -> x.days(2));
    }

    static void promise43_daysEndOneByOne() {
        FreeLances x = rich();
        FreeLances y = rich();
        x.days(100);
        for (int i = 0; i < 100; i++) {
            y.days(1);
        }
        for (int what = 0; what <= 13; what++) {
            due(x.count(what), y.count(what));
        }
        for (int bond = 0; bond < 8; bond++) {
            due(x.bondIs(bond, 7), y.bondIs(bond, 7));
            due(x.bondIs(bond, 8), y.bondIs(bond, 8));
        }
    }

    // ---- promise 44: ahead

    static void promise44_nIs0To200() {
        range(0, 200, (x, v) -> x.ahead(v, 0, 0));
    }

    static void promise44_theDayIsNotAbove3000() {
        due(late(2800).ahead(200, 0, 0), 1000);
        refused(BEYOND, () -> late(2801), x -> x.ahead(200, 0, 0));
        due(late(3000).ahead(0, 0, 0), 1000);
        refused(BEYOND, () -> late(3000), x -> x.ahead(1, 0, 0));
    }

    static void promise44_whatIs0To6() {
        range(0, 6, (x, v) -> x.ahead(5, v, 0));
    }

    static void promise44_iIsThatOfATown() {
        range(0, 3, (x, v) -> x.ahead(5, 0, v));
        range(0, 3, (x, v) -> x.ahead(5, 1, v));
    }

    static void promise44_iIsThatOfACompany() {
        for (int what = 2; what <= 5; what++) {
            int asked = what;
            range(0, 2, (x, v) -> x.ahead(5, asked, v));
        }
    }

    static void promise44_iIsThatOfABond() {
        range(0, 7, (x, v) -> x.ahead(5, 6, v));
    }

    static void promise44_0DaysAheadIsNow() {
        FreeLances x = rich();
        for (int town = 0; town < 4; town++) {
            due(x.ahead(0, 0, town), x.townIs(town, 0));
            due(x.ahead(0, 1, town), x.townIs(town, 1));
        }
        for (int company = 0; company < 3; company++) {
            due(x.ahead(0, 2, company), x.about(company, 1));
            due(x.ahead(0, 3, company), x.about(company, 2));
            due(x.ahead(0, 4, company), x.about(company, 4));
            due(x.ahead(0, 5, company), x.about(company, 5));
        }
        due(x.ahead(0, 6, 0), 270);
        due(x.ahead(0, 6, 3), 0);
    }

    static void promise44_whatIsAheadComes() {
        for (int n : new int[] {1, 4, 29, 30, 31, 60, 200}) {
            FreeLances x = rich();
            FreeLances y = rich();
            y.days(n);
            for (int town = 0; town < 4; town++) {
                due(x.ahead(n, 0, town), y.townIs(town, 0));
                due(x.ahead(n, 1, town), y.townIs(town, 1));
            }
            for (int company = 0; company < 3; company++) {
                due(x.ahead(n, 2, company), y.about(company, 1));
                due(x.ahead(n, 3, company), y.about(company, 2));
                due(x.ahead(n, 4, company), y.about(company, 4));
                due(x.ahead(n, 5, company), y.about(company, 5));
            }
            for (int bond = 0; bond < 8; bond++) {
                due(x.ahead(n, 6, bond), y.bondIs(bond, 7));
            }
        }
    }

    static void promise44_whoComesEatsThere() {
        FreeLances x = new FreeLances();
        x.town(0, 0);
        x.town(0, 0);
        x.town(0, 50);
        x.road(0, 2, 3);
        x.company(0, 0, 2);
        x.lance(0, 0, 100);
        x.march(0, 2);
        due(x.ahead(1, 3, 0), 1);
        due(x.ahead(2, 1, 2), 50);
        due(x.ahead(3, 1, 2), 49);
        due(x.ahead(10, 1, 2), 42);
        due(x.ahead(10, 4, 0), 1);
        due(x.about(0, 0), -1);
    }

    static void promise44_monthsAreByLawsAndAdvances() {
        FreeLances x = new FreeLances();
        x.town(30, 0);
        x.company(0, 0, 0);
        x.contract(0, 0, 3000, 7);
        law(x, 1, 0, "p+3");
        law(x, 1, 40, "p+5");
        x.advance(0, 13);
        due(x.ahead(29, 0, 0), 17);
        due(x.ahead(30, 0, 0), 17);
        due(x.ahead(30, 6, 0), 0);
        // 10 of the 13 were taken off, then 3 of 12: 9 are paid, and 8 of the 12 behind that.
        due(x.ahead(60, 0, 0), 8);
        due(x.ahead(60, 2, 0), 22);
        due(x.ahead(90, 0, 0), 0);
        due(x.ahead(90, 6, 0), 4);
        due(x.bondIs(0, 9), 13);
    }

    static void promise44_nothingChanges() {
        unchanged(Edges::rich, x -> x.ahead(200, 6, 0));
        unchanged(Edges::rich, x -> x.ahead(200, 0, 0));
        unchanged(Edges::rich, x -> x.ahead(30, 5, 2));
    }
}
