/**
 * For each promise of the document its ordinary answers, its edges, wrong inputs, and the order in which its
 * findings are asked, worked out by hand.
 */
public final class PromisesTest extends Edges {
    private PromisesTest() {
    }

    public static void main(String[] args) {
        townsAndRoads();
        companiesAndLances();
        leaving();
        daysAndHunger();
        statutes();
        texts();
        contracts();
        otherBonds();
        months();
        clashes();
        freeDays();
        musters();
        walls();
        asking();
        parts();
        wintering();
        hiring();
        ahead();
        voices();
        sheets();
        images();
        judging();
        counting();
        findings();
        edgesOfBonds();
        edgesOfLances();
        edgesOfPlans();
        edgesOfRestoring();
        System.out.println(wrong() == 0 ? asked() + " answers are as due" : wrong() + " answers are not as due");
        if (wrong() != 0) {
            System.exit(1);
        }
    }

    private static void promise(int number) {
        named("promise " + number);
    }

    // ---- the promises

    private static void townsAndRoads() {
        promise(1);
        FreeLances x = new FreeLances();
        for (int what = 0; what <= 13; what++) {
            due(x.count(what), 0);
        }
        due(x.restore(), NONE);
        promise(2);
        due(x.town(-1, 0), BEYOND);
        due(x.town(0, -1), BEYOND);
        due(x.town(100000, 0), BEYOND);
        due(x.town(0, 100000), BEYOND);
        due(x.town(0, 0), 0);
        due(x.town(99999, 99999), 1);
        for (int i = 2; i < 8; i++) {
            due(x.town(i, i), i);
        }
        due(x.town(0, 0), FULL);
        due(x.town(0, -1), BEYOND);
        due(x.count(0), 8);
        promise(5);
        due(x.townIs(1, 0), 99999);
        due(x.townIs(1, 1), 99999);
        due(x.townIs(1, 2), 100);
        due(x.townIs(1, 3), 0);
        due(x.townIs(1, 4), 0);
        due(x.townIs(8, 0), BEYOND);
        due(x.townIs(-1, 0), BEYOND);
        due(x.townIs(0, -1), BEYOND);
        due(x.townIs(0, 5), BEYOND);
        promise(6);
        due(x.wall(1, 999, 99), 1);
        due(x.townIs(1, 2), 999);
        due(x.townIs(1, 3), 99);
        due(x.wall(1, 0, 0), 1);
        due(x.townIs(1, 2), 0);
        due(x.wall(1, 1000, 0), BEYOND);
        due(x.wall(1, -1, 0), BEYOND);
        due(x.wall(1, 0, 100), BEYOND);
        due(x.wall(1, 0, -1), BEYOND);
        due(x.wall(8, 0, 0), BEYOND);
        promise(7);
        due(x.harvest(0, 0), BEYOND);
        due(x.harvest(0, 10000), BEYOND);
        due(x.harvest(8, 1), BEYOND);
        due(x.harvest(0, 1), 1);
        for (int i = 1; i <= 100; i++) {
            due(x.harvest(0, 9999), 1 + 9999 * i);
        }
        due(x.harvest(0, 97), 999998);
        due(x.harvest(0, 2), FULL);
        due(x.harvest(0, 1), 999999);
        due(x.harvest(0, 1), FULL);
        roads();
    }

    private static void roads() {
        promise(3);
        FreeLances x = land(5, 0);
        due(x.road(0, 0, 1), BEYOND);
        due(x.road(0, 5, 1), BEYOND);
        due(x.road(-1, 0, 1), BEYOND);
        due(x.road(0, 1, 0), BEYOND);
        due(x.road(0, 1, 10), BEYOND);
        due(x.road(0, 1, 9), 1);
        promise(4);
        due(x.far(0, 0), 0);
        due(x.far(1, 0), 9);
        due(x.far(0, 2), NONE);
        due(x.far(0, 5), BEYOND);
        due(x.far(-1, 0), BEYOND);
        due(x.road(2, 1, 2), 2);
        due(x.road(3, 0, 1), 3);
        due(x.far(3, 2), 12);
        due(x.road(0, 2, 3), 4);
        due(x.far(3, 2), 4);
        due(x.far(0, 1), 5);
        due(x.road(0, 2, 4), 5);
        due(x.far(0, 2), 3);
        promise(3);
        for (int i = 6; i <= 16; i++) {
            due(x.road(0, 1, 1), i);
        }
        due(x.road(0, 1, 1), FULL);
        due(x.road(0, 1, 10), BEYOND);
        due(x.count(1), 16);
        promise(4);
        due(x.far(0, 4), NONE);
    }

    private static void companiesAndLances() {
        promise(8);
        FreeLances x = land(3, 0);
        due(x.company(3, 0, 0), BEYOND);
        due(x.company(0, -1, 0), BEYOND);
        due(x.company(0, 10000, 0), BEYOND);
        due(x.company(0, 0, -1), BEYOND);
        due(x.company(0, 0, 10000), BEYOND);
        due(x.company(0, 9999, 9999), 0);
        for (int i = 1; i < 5; i++) {
            due(x.company(1, 100, 0), i);
        }
        due(x.company(1, 0, 0), FULL);
        due(x.company(3, 0, 0), BEYOND);
        promise(5);
        due(x.townIs(0, 4), 1);
        due(x.townIs(1, 4), 30);
        promise(11);
        int[] fresh = {0, 9999, 9999, 0, 0, 0, -1, -1, -1};
        for (int what = 0; what < fresh.length; what++) {
            due(x.about(0, what), fresh[what]);
        }
        due(x.about(0, 9), BEYOND);
        due(x.about(0, -1), BEYOND);
        due(x.about(5, 0), BEYOND);
        promise(9);
        x.road(0, 1, 2);
        due(x.march(5, 0), BEYOND);
        due(x.march(0, 3), BEYOND);
        due(x.march(0, 0), STATE);
        due(x.march(0, 2), NONE);
        due(x.march(0, 1), 2);
        due(x.march(0, 2), STATE);
        due(x.about(0, 0), -1);
        due(x.townIs(0, 4), 0);
        due(x.townIs(1, 4), 30);
        due(x.days(1), 1);
        due(x.about(0, 0), -1);
        due(x.days(1), 2);
        due(x.about(0, 0), 1);
        due(x.townIs(1, 4), 31);
        due(x.march(0, 0), 4);
        promise(10);
        due(x.buy(0, 1), STATE);
        due(x.buy(0, 0), BEYOND);
        due(x.buy(1, 10000), BEYOND);
        due(x.buy(5, 1), BEYOND);
        due(x.buy(1, 101), NONE);
        due(x.buy(1, 40), 40);
        due(x.about(1, 1), 60);
        due(x.townIs(1, 0), 1040);
        due(x.townIs(1, 1), 960);
        due(x.buy(1, 60), 100);
        due(x.buy(1, 1), NONE);
        x.days(2);
        due(x.buy(0, 1001), NONE);
        due(x.buy(0, 1000), 10999);
        lances();
    }

    private static void lances() {
        promise(12);
        FreeLances x = land(2, 2);
        due(x.lance(2, 0, 100), BEYOND);
        due(x.lance(0, -1, 100), BEYOND);
        due(x.lance(0, 100, 100), BEYOND);
        due(x.lance(0, 0, 99), BEYOND);
        due(x.lance(0, 0, 181), BEYOND);
        due(x.lance(0, 0, 100), 0);
        due(x.lance(1, 99, 180), 1);
        promise(13);
        int[] fresh = {1, 99, 180, 0, -1};
        for (int what = 0; what < fresh.length; what++) {
            due(x.lanceIs(1, what), fresh[what]);
        }
        due(x.lanceIs(1, 5), BEYOND);
        due(x.lanceIs(1, -1), BEYOND);
        due(x.lanceIs(2, 0), BEYOND);
        promise(12);
        for (int i = 2; i < 40; i++) {
            due(x.lance(0, 5, 150), i);
        }
        due(x.lance(0, 5, 150), FULL);
        due(x.lance(0, 5, 99), BEYOND);
        promise(11);
        due(x.about(0, 4), 39);
        promise(15);
        due(x.take(2, 0), BEYOND);
        due(x.take(1, 40), BEYOND);
        due(x.take(0, 0), STATE);
        due(x.take(1, 0), 1);
        due(x.lanceIs(0, 3), 2);
        due(x.lanceIs(0, 4), 1);
        due(x.about(0, 4), 38);
        due(x.take(1, 0), STATE);
        promise(14);
        due(x.over(40, 0), BEYOND);
        due(x.over(1, 2), BEYOND);
        due(x.over(1, 1), BEYOND);
        due(x.over(0, 0), BEYOND);
        due(x.over(0, 1), STATE);
        due(x.over(1, 0), 1);
        due(x.lanceIs(1, 0), 0);
        due(x.about(0, 4), 39);
        due(x.about(1, 4), 0);
        x.road(0, 1, 1);
        x.march(1, 1);
        due(x.over(1, 1), STATE);
        x.march(0, 1);
        due(x.over(1, 1), STATE);
        x.days(1);
        due(x.over(1, 1), 0);
        promise(15);
        x.march(0, 0);
        due(x.take(1, 2), 1);
    }

    private static void leaving() {
        promise(14);
        FreeLances x = new FreeLances();
        x.town(0, 99999);
        x.company(0, 0, 0);
        x.company(0, 0, 0);
        x.lance(0, 1, 100);
        x.lance(0, 1, 100);
        x.lance(0, 2, 100);
        fill(x, 0, 8, 1);
        x.muster(0, 0);
        x.contract(0, 10, 95, 50);
        due(x.over(2, 1), 0);
        x.days(10);
        due(x.over(0, 1), STATE);
        x.days(80);
        due(x.bondIs(0, 7), 150);
        due(x.bondIs(0, 8), 30);
        due(x.over(0, 1), STATE);
        x.days(1);
        due(x.over(0, 1), 0);
        law(x, 2, 92, "o>150");
        due(x.over(1, 1), 0);
        due(x.over(1, 0), 1);
        x.days(1);
        due(x.over(1, 1), STATE);
        law(x, 2, 92, "0-(o=150)");
        due(x.over(1, 1), 0);
        x.over(1, 0);
        law(x, 2, 0, "0");
        due(x.over(1, 1), STATE);
        x.days(4);
        due(x.serves(0, 96), NONE);
        due(x.over(1, 1), 0);
    }

    private static void daysAndHunger() {
        promise(43);
        FreeLances x = new FreeLances();
        due(x.days(0), BEYOND);
        due(x.days(201), BEYOND);
        due(x.days(-1), BEYOND);
        due(x.days(1), 1);
        for (int i = 1; i < 15; i++) {
            due(x.days(200), 1 + 200 * i);
        }
        due(x.days(200), BEYOND);
        due(x.days(199), 3000);
        due(x.days(1), BEYOND);
        due(x.count(6), 3000);
        x = new FreeLances();
        x.town(0, 4);
        x.company(0, 0, 2);
        x.company(0, 0, 0);
        for (int i = 0; i < 3; i++) {
            x.lance(0, i, 100);
        }
        x.lance(1, 9, 100);
        x.days(1);
        // COMPANY 0 ate its 2 and 1 of the TOWN's, then COMPANY 1 ate 1.
        due(x.about(0, 2), 0);
        due(x.townIs(0, 1), 2);
        due(x.about(0, 3), 0);
        x.days(1);
        // What there is is eaten even though it is not enough.
        due(x.townIs(0, 1), 0);
        due(x.about(0, 3), 1);
        due(x.about(1, 3), 1);
        x.days(1);
        due(x.about(0, 4), 3);
        x.days(1);
        due(x.about(0, 3), 3);
        due(x.lanceIs(0, 3), 1);
        due(x.lanceIs(1, 3), 0);
        x.days(2);
        due(x.about(0, 5), 3);
        due(x.about(0, 3), 5);
        x.days(1);
        due(x.lanceIs(0, 3), 3);
        due(x.about(0, 5), 2);
        due(x.lanceIs(3, 3), 3);
        x.harvest(0, 3);
        x.days(1);
        due(x.about(0, 3), 0);
        due(x.lanceIs(1, 3), 0);
        due(x.lanceIs(2, 3), 1);
        due(x.townIs(0, 1), 1);
        due(x.about(1, 3), 0);
        x.days(1);
        due(x.about(0, 3), 1);
        due(x.lanceIs(2, 3), 1);
        // Who comes to a TOWN eats there on that day.
        x = new FreeLances();
        x.town(0, 0);
        x.town(0, 10);
        x.road(0, 1, 2);
        x.company(0, 0, 0);
        x.lance(0, 0, 100);
        x.march(0, 1);
        x.days(1);
        due(x.about(0, 3), 1);
        x.days(1);
        due(x.about(0, 3), 0);
        due(x.townIs(1, 1), 9);
    }

    private static void statutes() {
        promise(16);
        FreeLances x = new FreeLances();
        due(x.feed(0, 0), BEYOND);
        due(x.feed(0, 9), BEYOND);
        due(x.feed(0x3231, 2), 2);
        due(x.count(7), 2);
        promise(17);
        due(x.statute(-1, 0), BEYOND);
        due(x.statute(4, 0), BEYOND);
        due(x.statute(0, -1), BEYOND);
        due(x.statute(0, 3001), BEYOND);
        due(x.count(7), 2);
        due(x.statute(0, 3000), 0);
        due(x.count(7), 0);
        promise(19);
        due(x.says(0, 0, 0, 0), 12);
        due(x.says(1, 0, 0, 0), BEYOND);
        due(x.says(-1, 0, 0, 0), BEYOND);
        promise(16);
        for (int i = 1; i <= 6; i++) {
            due(x.feed(0x3131313131313131L, 8), 8 * i);
        }
        due(x.feed(0, 3), FULL);
        due(x.feed(0, 9), BEYOND);
        due(x.feed(0x3131, 2), 50);
        due(x.feed(0, 1), FULL);
        promise(17);
        due(x.statute(0, 0), -14);
        due(x.count(7), 0);
        due(x.count(4), 1);
        due(x.statute(0, 0), -10);
        promise(18);
        due(law(x, 1, 10, "n"), 1);
        due(law(x, 1, 20, "p"), 2);
        due(law(x, 1, 15, "1"), 3);
        due(x.force(1, 9), NONE);
        due(x.force(1, 10), 1);
        due(x.force(1, 14), 1);
        due(x.force(1, 15), 3);
        due(x.force(1, 3000), 3);
        due(x.force(0, 2999), NONE);
        due(x.force(0, 3000), 0);
        due(x.force(2, 0), NONE);
        due(x.force(4, 0), BEYOND);
        due(x.force(-1, 0), BEYOND);
        due(x.force(0, -1), BEYOND);
        due(x.force(0, 3001), BEYOND);
        promise(17);
        for (int i = 4; i < 12; i++) {
            due(law(x, 2, 0, "l"), i);
        }
        due(law(x, 2, 0, "l)"), FULL);
        due(x.count(7), 2);
        due(x.statute(4, 0), BEYOND);
        due(x.count(4), 12);
    }

    private static void says(int use, String text, int a, int b, int c, int want) {
        FreeLances x = new FreeLances();
        int got = law(x, use, 0, text);
        due(got == 0 ? x.says(0, a, b, c) : got, want);
    }

    private static void texts() {
        promise(19);
        says(0, "h*100+m*10+s", 1, 2, 3, 123);
        says(1, "n*10+p", 1, 2, 3, 12);
        says(2, "l*10+o", 1, 2, 3, 12);
        says(3, "c", 1, 2, 3, 1);
        says(0, "1+2*3", 0, 0, 0, 7);
        says(0, "(1+2)*3", 0, 0, 0, 9);
        says(0, "9-3-2", 0, 0, 0, 4);
        says(0, "100/7/2", 0, 0, 0, 7);
        says(0, "100/7*2", 0, 0, 0, 28);
        says(0, "(0-7)/2", 0, 0, 0, -3);
        says(0, "5/0", 0, 0, 0, 0);
        says(0, "h/m", LEAST, -1, 0, LEAST);
        says(0, "h+m", GREATEST, 1, 0, LEAST);
        says(0, "h*m", 65536, 65536, 0, 0);
        says(0, "2|0", 0, 0, 0, 1);
        says(0, "0|0", 0, 0, 0, 0);
        says(0, "2&3", 0, 0, 0, 1);
        says(0, "2&0", 0, 0, 0, 0);
        says(0, "1|0&0", 0, 0, 0, 1);
        says(0, "(1|0)&0", 0, 0, 0, 0);
        says(0, "1+1=2", 0, 0, 0, 1);
        says(0, "1<1", 0, 0, 0, 0);
        says(0, "1<2&3>2", 0, 0, 0, 1);
        says(0, "1>1|5", 0, 0, 0, 1);
        says(0, "!0", 0, 0, 0, 1);
        says(0, "!7", 0, 0, 0, 0);
        says(0, "!!7", 0, 0, 0, 1);
        says(0, "!0+5", 0, 0, 0, 6);
        says(0, "!h*5", 0, 0, 0, 5);
        says(0, "!(1<2)", 0, 0, 0, 0);
        says(0, "(2<1)<1", 0, 0, 0, 1);
        says(0, "9999", 0, 0, 0, 9999);
        says(0, "0007", 0, 0, 0, 7);
        says(0, "!!!!!1", 0, 0, 0, 0);
        says(0, "(((((3)))))", 0, 0, 0, 3);
        says(0, "!(!(!2))+!!!!!0", 0, 0, 0, 1);
        says(0, "(((1)))+(((((2)))))", 0, 0, 0, 3);
        promise(17);
        says(0, "12345", 0, 0, 0, -14);
        says(0, "1<2<3", 0, 0, 0, -13);
        says(0, "1<2=3", 0, 0, 0, -13);
        says(0, "1<", 0, 0, 0, -12);
        says(0, "1++2", 0, 0, 0, -12);
        says(0, "-1", 0, 0, 0, -10);
        says(0, "1)", 0, 0, 0, -11);
        says(0, "()", 0, 0, 0, -11);
        says(0, "(1", 0, 0, 0, -12);
        says(0, "!", 0, 0, 0, -11);
        says(0, "h m", 0, 0, 0, -11);
        says(0, "hm", 0, 0, 0, -11);
        says(0, "1h", 0, 0, 0, -11);
        says(0, "h1", 0, 0, 0, -11);
        says(0, "n", 0, 0, 0, -10);
        says(1, "n*h", 0, 0, 0, -12);
        says(2, "l+c", 0, 0, 0, -12);
        says(3, "c+p", 0, 0, 0, -12);
        says(3, "n", 0, 0, 0, -10);
        says(1, "s", 0, 0, 0, -10);
        says(0, "1\u00ff", 0, 0, 0, -11);
        says(0, "\u00ff", 0, 0, 0, -10);
        says(0, "!!!!!!1", 0, 0, 0, -15);
        says(0, "((((((3))))))", 0, 0, 0, -15);
        says(0, "!(!(!(1", 0, 0, 0, -15);
        says(0, "!!!!(!1)", 0, 0, 0, -15);
        says(0, "(((((1))))", 0, 0, 0, -20);
        says(0, "1(2)", 0, 0, 0, -11);
        says(0, "1!2", 0, 0, 0, -11);
        says(0, "1+2)*3", 0, 0, 0, -13);
    }

    private static void contracts() {
        promise(20);
        FreeLances x = land(3, 2);
        due(x.contract(-1, 0, 1, 0), BEYOND);
        due(x.contract(LEAST, 0, 1, 0), BEYOND);
        due(x.contract(GREATEST, 0, 1, 0), BEYOND);
        due(x.contract(300, 0, 1, 0), BEYOND);
        due(x.contract(40, 0, 1, 0), BEYOND);
        due(x.contract(2, 0, 1, 0), BEYOND);
        due(x.contract(10, 0, 1, 0), BEYOND);
        due(x.contract(0, -1, 1, 0), BEYOND);
        due(x.contract(0, 2, 1, 0), BEYOND);
        due(x.contract(0, 0, 3001, 0), BEYOND);
        due(x.contract(0, 0, 1, -1), BEYOND);
        due(x.contract(0, 0, 1, 1000), BEYOND);
        due(x.contract(221, 0, 2990, 999), 0);
        due(x.contract(0, 3000, 3000, 0), 1);
        promise(27);
        int[] first = {1, 1, 0, 2990, 2, 1, -1, 0, -1, 0};
        for (int what = 0; what < first.length; what++) {
            due(x.bondIs(0, what), first[what]);
        }
        due(x.bondIs(1, 5), -1);
        due(x.bondIs(0, -1), BEYOND);
        due(x.bondIs(0, 10), BEYOND);
        due(x.bondIs(2, 0), BEYOND);
        due(x.bondIs(-1, 0), BEYOND);
        promise(21);
        due(x.renew(2, 1, 0), BEYOND);
        due(x.renew(0, 0, 0), BEYOND);
        due(x.renew(0, 401, 0), BEYOND);
        due(x.renew(0, 1, -1), BEYOND);
        due(x.renew(0, 1, 2), BEYOND);
        due(x.renew(0, 11, 0), BEYOND);
        due(x.renew(0, 9, 1), 2);
        due(x.renew(0, 9, 1), STATE);
        due(x.renew(2, 1, 0), 3);
        due(x.renew(3, 1, 0), BEYOND);
        int[] second = {2, 1, 2991, 2999, 2, 1, 0, 0, -1, 0};
        for (int what = 0; what < second.length; what++) {
            due(x.bondIs(2, what), second[what]);
        }
        due(x.bondIs(3, 6), 2);
        due(x.truce(0, 1, 0, 2990), 4);
        due(x.renew(4, 400, 0), BEYOND);
        due(x.renew(4, 5, 0), KIND);
        promise(26);
        due(x.as(0, 0), 999);
        due(x.as(0, 1), 999);
        due(x.as(0, 2), KIND);
        due(x.as(2, 1), 999);
        due(x.as(4, 1), KIND);
        due(x.as(4, 0), 0);
        due(x.as(4, 6), KIND);
        due(x.as(5, 0), BEYOND);
        due(x.as(0, 7), BEYOND);
        due(x.as(0, -1), BEYOND);
        promise(30);
        due(x.serves(1, 0), 2);
        due(x.serves(1, 3000), 2);
        due(x.serves(0, 2999), NONE);
        due(x.serves(0, 3000), 0);
        due(x.serves(0, -1), BEYOND);
        due(x.serves(0, 3001), BEYOND);
        due(x.serves(2, 0), BEYOND);
        promise(11);
        due(x.about(1, 6), 2);
        due(x.about(0, 6), -1);
        promise(20);
        for (int i = 5; i < 24; i++) {
            due(x.contract(0, 5, 10, 0), i);
        }
        due(x.contract(0, 5, 10, 0), FULL);
        due(x.contract(0, 5, 10, -1), BEYOND);
        promise(21);
        due(x.renew(10, 5, 0), FULL);
        due(x.renew(0, 5, 0), STATE);
        due(x.renew(4, 5, 0), KIND);
        promise(22);
        due(x.advance(10, 5), FULL);
        due(x.advance(10, 5000), NONE);
        promise(23);
        due(x.truce(0, 1, 0, 1), FULL);
        promise(24);
        due(x.safe(0, 1, 0, 1, 5), FULL);
        due(x.safe(0, 1, 0, 1, 5000), NONE);
        promise(25);
        x.lance(0, 1, 100);
        due(x.ransom(0, 5), STATE);
        x.take(1, 0);
        due(x.ransom(0, 101), NONE);
        due(x.ransom(0, 100), FULL);
        due(x.lanceIs(0, 3), 2);
        due(x.count(10), 3200);
        due(x.townIs(0, 0), 1000);
    }

    private static void otherBonds() {
        promise(22);
        FreeLances x = land(2, 2);
        x.lance(0, 1, 100);
        x.contract(100, 0, 10, 7);
        x.renew(0, 10, 0);
        due(x.advance(2, 1), BEYOND);
        due(x.advance(0, 0), BEYOND);
        due(x.advance(0, 10000), BEYOND);
        due(x.advance(0, 1001), NONE);
        due(x.advance(0, 300), 2);
        due(x.advance(1, 700), 3);
        due(x.townIs(1, 0), 0);
        due(x.about(0, 1), 1100);
        due(x.bondIs(0, 9), 300);
        due(x.bondIs(1, 9), 700);
        due(x.advance(2, 1), KIND);
        int[] advance = {3, 0, -1, -1, 1, -1, 0, 0, -1, 0};
        promise(27);
        for (int what = 0; what < advance.length; what++) {
            due(x.bondIs(2, what), advance[what]);
        }
        due(x.bondIs(3, 6), 1);
        promise(23);
        due(x.truce(2, 0, 0, 1), BEYOND);
        due(x.truce(0, 2, 0, 1), BEYOND);
        due(x.truce(1, 1, 0, 1), BEYOND);
        due(x.truce(1, 0, 2, 1), BEYOND);
        due(x.truce(1, 0, 0, 3001), BEYOND);
        due(x.truce(1, 0, -1, 0), BEYOND);
        due(x.truce(1, 0, 3, 3), 4);
        int[] truce = {4, 1, 3, 3, -1, -1, 0, 0, -1, 0};
        promise(27);
        for (int what = 0; what < truce.length; what++) {
            due(x.bondIs(4, what), truce[what]);
        }
        promise(24);
        due(x.safe(2, 0, 0, 1, 0), BEYOND);
        due(x.safe(0, 2, 0, 1, 0), BEYOND);
        due(x.safe(0, 0, 2, 1, 0), BEYOND);
        due(x.safe(0, 0, 0, 1, -1), BEYOND);
        due(x.safe(0, 0, 0, 1, 10000), BEYOND);
        due(x.safe(0, 0, 0, 1, 1001), NONE);
        due(x.safe(0, 0, 0, 1, 1000), 5);
        due(x.safe(0, 0, 0, 1, 0), 6);
        due(x.townIs(0, 0), 0);
        due(x.about(0, 1), 2100);
        int[] safe = {6, 0, 0, 1, 0, -1, -1, 0, -1, 0};
        promise(27);
        for (int what = 0; what < safe.length; what++) {
            due(x.bondIs(5, what), safe[what]);
        }
        promise(25);
        due(x.ransom(1, 0), BEYOND);
        due(x.ransom(0, -1), BEYOND);
        due(x.ransom(0, 10000), BEYOND);
        due(x.ransom(0, 0), STATE);
        x.take(1, 0);
        due(x.ransom(0, 2101), NONE);
        due(x.ransom(0, 2100), 7);
        due(x.about(0, 1), 0);
        due(x.townIs(1, 0), 2100);
        due(x.lanceIs(0, 3), 0);
        due(x.lanceIs(0, 4), -1);
        due(x.about(0, 4), 1);
        due(x.ransom(0, 0), STATE);
        int[] ransom = {5, 0, -1, -1, 1, -1, 0, 0, -1, 0};
        promise(27);
        for (int what = 0; what < ransom.length; what++) {
            due(x.bondIs(7, what), ransom[what]);
        }
        promise(26);
        int[] sums = {7, 7, 300, 700, 0, 1000, 0, 2100};
        for (int bond = 0; bond < sums.length; bond++) {
            due(x.as(bond, 0), sums[bond]);
            due(x.as(bond, x.bondIs(bond, 0)), sums[bond]);
        }
        ransomOfASickOne();
    }

    private static void ransomOfASickOne() {
        promise(25);
        FreeLances x = new FreeLances();
        x.town(0, 0);
        x.town(0, 0);
        x.company(0, 10, 0);
        x.lance(0, 1, 100);
        x.days(3);
        due(x.about(0, 5), 1);
        due(x.take(1, 0), 1);
        due(x.about(0, 5), 0);
        due(x.ransom(0, 10), 0);
        due(x.about(0, 4), 1);
        due(x.about(0, 5), 0);
    }

    private static void months() {
        promise(43);
        FreeLances x = new FreeLances();
        x.town(100, 9999);
        x.company(0, 0, 0);
        for (int i = 0; i < 4; i++) {
            x.lance(0, i, 100);
        }
        x.contract(0, 30, 60, 10);
        x.contract(0, 31, 59, 10);
        x.contract(0, 30, 90, 30);
        fill(x, 0, 8, 0, 1, 2, 3);
        x.days(29);
        due(x.muster(0, 0), 4);
        x.days(1);
        // 40 are paid, then 60 of 120.
        due(x.bondIs(0, 7), 0);
        due(x.bondIs(1, 7), 0);
        due(x.bondIs(2, 7), 60);
        due(x.bondIs(2, 8), 30);
        due(x.townIs(0, 0), 0);
        due(x.about(0, 1), 100);
        due(x.count(13), 60);
        promise(28);
        due(x.stop(3, 1), BEYOND);
        due(x.stop(2, 0), BEYOND);
        due(x.stop(2, 10000), BEYOND);
        due(x.stop(0, 1), STATE);
        due(x.stop(2, 61), STATE);
        due(x.stop(2, 10), 50);
        due(x.bondIs(2, 8), 30);
        promise(29);
        due(x.pay(3, 1), BEYOND);
        due(x.pay(2, 0), BEYOND);
        due(x.pay(2, 10000), BEYOND);
        due(x.pay(0, 1), STATE);
        due(x.pay(2, 51), STATE);
        due(x.pay(2, 1), NONE);
        due(x.buy(0, 45), 45);
        due(x.pay(2, 46), NONE);
        due(x.pay(2, 45), 5);
        due(x.about(0, 1), 100);
        due(x.bondIs(2, 8), 30);
        due(x.stop(2, 5), 0);
        due(x.bondIs(2, 8), -1);
        promise(43);
        due(x.days(30), 60);
        due(x.bondIs(0, 7), 40);
        due(x.bondIs(1, 7), 0);
        due(x.bondIs(2, 7), 120);
        due(x.bondIs(2, 8), 60);
        x.buy(0, 100);
        due(x.advance(2, 90), 3);
        due(x.days(30), 90);
        // BOND 0 is over, so it gets nothing; of 240, 90 are taken off and 10 paid.
        due(x.bondIs(0, 7), 40);
        due(x.bondIs(2, 7), 140);
        due(x.bondIs(2, 8), 60);
        due(x.bondIs(2, 9), 0);
        due(x.townIs(0, 0), 0);
        promise(28);
        due(x.stop(3, 1), KIND);
        due(x.stop(3, 0), BEYOND);
        promise(29);
        due(x.pay(3, 1), KIND);
        due(x.pay(3, 0), BEYOND);
        promise(54);
        due(x.count(13), 180);
        duesByStatute();
    }

    private static void duesByStatute() {
        promise(43);
        FreeLances x = new FreeLances();
        x.town(0, 9999);
        x.town(0, 0);
        x.company(0, 0, 0);
        x.contract(0, 0, 3000, 7);
        x.days(30);
        due(x.bondIs(0, 7), 0);
        law(x, 1, 0, "n+p+5");
        x.days(30);
        due(x.bondIs(0, 7), 12);
        due(x.bondIs(0, 8), 60);
        law(x, 1, 90, "0-100");
        x.days(30);
        due(x.bondIs(0, 7), 12);
        law(x, 1, 121, "9999*9999");
        x.days(30);
        due(x.bondIs(0, 7), 12);
        x.days(30);
        due(x.bondIs(0, 7), 100011);
        due(x.bondIs(0, 8), 60);
    }

    private static void clashes() {
        promise(31);
        FreeLances x = land(3, 3);
        due(x.clash(-1, 0), BEYOND);
        due(x.clash(0, -1), BEYOND);
        due(x.clash(0, 3), BEYOND);
        due(x.clash(0, 0), NONE);
        x.contract(0, 10, 20, 1);
        x.contract(100, 20, 30, 1);
        x.contract(100, 31, 40, 1);
        x.contract(1, 0, 100, 1);
        // One COMPANY, unlike TOWNS, and the last day of the one is the first of the other.
        due(x.count(12), 1);
        due(x.clash(0, 0), 0);
        due(x.clash(0, 1), 1);
        due(x.clash(0, 2), 20);
        due(x.clash(1, 0), NONE);
        x.renew(0, 11, 0);
        // 21 .. 31 for TOWN 0: against both of TOWN 1.
        due(x.count(12), 3);
        due(x.clash(1, 0), 1);
        due(x.clash(1, 1), 4);
        due(x.clash(1, 2), 21);
        due(x.clash(2, 0), 2);
        due(x.clash(2, 2), 31);
        safesAndTruces();
    }

    private static void safesAndTruces() {
        FreeLances x = land(3, 3);
        x.safe(0, 1, 5, 15, 0);
        x.contract(20, 15, 25, 1);
        x.safe(0, 2, 0, 100, 0);
        x.safe(1, 1, 0, 100, 0);
        x.safe(0, 1, 26, 30, 0);
        due(x.count(12), 1);
        due(x.clash(0, 0), 0);
        due(x.clash(0, 1), 1);
        due(x.clash(0, 2), 15);
        // A TRUCE with COMPANY 1, which serves the FOE late, and then early too.
        x = land(3, 3);
        x.contract(20, 10, 50, 1);
        x.truce(0, 1, 20, 60);
        due(x.count(12), 0);
        x.contract(101, 50, 70, 1);
        due(x.clash(0, 0), 0);
        due(x.clash(0, 1), 1);
        due(x.clash(0, 2), 50);
        x.contract(101, 0, 30, 1);
        due(x.clash(0, 2), 20);
        due(x.count(12), 1);
        x = land(3, 3);
        x.contract(20, 10, 50, 1);
        x.truce(0, 1, 20, 60);
        x.contract(101, 51, 70, 1);
        x.contract(201, 0, 70, 1);
        x.contract(102, 0, 70, 1);
        // Not in all three; for another TOWN (a clash with the one above); of another COMPANY.
        due(x.count(12), 1);
        due(x.clash(0, 0), 2);
        due(x.clash(0, 1), 3);
        // Either COMPANY of a TRUCE has it with the other one.
        x = land(3, 3);
        x.truce(1, 0, 20, 60);
        x.contract(101, 0, 70, 1);
        x.contract(20, 30, 50, 1);
        due(x.count(12), 1);
        due(x.clash(0, 0), 0);
        due(x.clash(0, 1), 2);
        due(x.clash(0, 2), 30);
    }

    private static void freeDays() {
        promise(32);
        FreeLances x = land(2, 2);
        due(x.free(2, false), BEYOND);
        due(x.free(-1, true), BEYOND);
        due(x.free(0, false), 0);
        x.contract(100, 20, 29, 1);
        x.contract(0, 0, 10, 1);
        x.contract(0, 8, 15, 1);
        due(x.free(0, false), 16);
        // 0 .. 40, 8 .. 45, 20 .. 59
        due(x.free(0, true), 60);
        due(x.free(1, true), 0);
        x.renew(1, 2, 0);
        due(x.free(0, true), 60);
        x.days(29);
        due(x.free(0, false), 30);
        due(x.free(0, true), 60);
        x.days(1);
        due(x.free(0, true), 30);
        x.contract(1, 0, 2970, 1);
        due(x.free(1, false), 2971);
        due(x.free(1, true), NONE);
        x.contract(1, 2971, 3000, 1);
        due(x.free(1, false), NONE);
        x = land(2, 1);
        x.contract(0, 0, 2969, 1);
        due(x.free(0, true), 3000);
    }

    private static void musters() {
        promise(33);
        FreeLances x = land(3, 3);
        x.road(0, 1, 3);
        due(x.muster(3, 0), BEYOND);
        due(x.muster(0, 4), BEYOND);
        due(x.muster(0, -1), BEYOND);
        due(x.muster(0, 0), NONE);
        x.march(2, 1);
        due(x.muster(2, 0), NONE);
        x.sheet(0, 8, 13);
        due(x.muster(2, 0), STATE);
        due(x.muster(0, 0), KIND);
        fill(x, 0, 8, 100);
        due(x.muster(0, 0), KIND);
        fill(x, 0, 8, -2);
        due(x.muster(0, 0), KIND);
        x.sheet(0, 8, 0);
        due(x.about(0, 7), -1);
        due(x.muster(0, 0), 0);
        due(x.about(0, 7), 0);
        due(x.about(0, 8), 0);
        x.lance(0, 5, 100);
        x.lance(0, 6, 120);
        x.lance(0, 5, 150);
        x.lance(1, 7, 150);
        fill(x, 0, 8, 5, 5, 6, 7, -1, 99);
        x.days(1);
        due(x.muster(0, 0), 2);
        due(x.about(0, 7), 2);
        due(x.about(0, 8), 1);
        // Of both LANCES of MARK 5 the least one is asked.
        law(x, 0, 0, "h>110");
        due(x.muster(0, 0), 1);
        law(x, 0, 0, "m=5");
        due(x.muster(0, 0), 1);
        law(x, 0, 0, "1");
        due(x.muster(0, 0), 2);
        // The MARK of the same place; a place that had none has none.
        fill(x, 1, 16, -1, 7, -1, -1, -1, -1, -1);
        due(x.muster(0, 1), 2);
        x.lance(0, 99, 150);
        due(x.muster(0, 1), 3);
        fill(x, 1, 16, 6);
        due(x.muster(0, 1), 1);
        fill(x, 1, 16, -1, -1, -1);
        due(x.muster(0, 1), 1);
        x.take(2, 1);
        due(x.muster(0, 1), 0);
        sickOnes();
        shownTwice();
    }

    private static void sickOnes() {
        FreeLances x = new FreeLances();
        x.town(0, 0);
        x.company(0, 0, 0);
        x.lance(0, 1, 100);
        x.lance(0, 2, 100);
        fill(x, 0, 32, 1, 2);
        x.days(3);
        due(x.muster(0, 0), 1);
        law(x, 0, 4, "s");
        due(x.muster(0, 0), 1);
        law(x, 0, 3, "s+1");
        due(x.muster(0, 0), 2);
        law(x, 0, 0, "s");
        due(x.muster(0, 0), 1);
        law(x, 0, 0, "h=100&m=2&!s");
        due(x.muster(0, 0), 1);
        law(x, 0, 0, "0-1");
        x.days(3);
        due(x.about(0, 5), 1);
        due(x.muster(0, 0), 1);
    }

    private static void shownTwice() {
        promise(34);
        FreeLances x = land(3, 3);
        x.road(0, 1, 3);
        due(x.twice(100, 0, 1), BEYOND);
        due(x.twice(-1, 0, 1), BEYOND);
        due(x.twice(0, 3, 1), BEYOND);
        due(x.twice(0, 0, 3), BEYOND);
        due(x.twice(0, 1, 1), BEYOND);
        due(x.twice(0, 0, 1), 0);
        promise(35);
        due(x.shown(-1), BEYOND);
        due(x.shown(0), NONE);
        fill(x, 0, 8, 99, 4, 0);
        fill(x, 1, 8, 0, 5, 99);
        x.muster(0, 0);
        promise(34);
        due(x.twice(99, 0, 1), 0);
        x.march(0, 1);
        x.muster(1, 1);
        due(x.twice(99, 0, 1), 1);
        due(x.twice(99, 1, 0), 1);
        due(x.twice(4, 0, 1), 0);
        due(x.twice(5, 0, 1), 0);
        x.days(3);
        x.muster(0, 0);
        due(x.twice(0, 0, 1), 1);
        x.march(0, 0);
        x.march(1, 1);
        x.days(2);
        x.muster(2, 1);
        // COMPANY 0 stood in TOWN 1 two days ahead of that, and it is three days away.
        due(x.twice(0, 0, 2), 2);
        x.days(1);
        x.muster(2, 1);
        due(x.twice(0, 0, 2), 1);
        x.road(0, 1, 1);
        due(x.twice(0, 0, 1), 1);
        promise(35);
        due(x.shown(0), 0);
        due(x.shown(1), 5);
        due(x.shown(2), 99);
        due(x.shown(3), NONE);
        due(x.shown(GREATEST), NONE);
        promise(34);
        x = land(1, 1);
        x.town(0, 0);
        x.company(1, 0, 0);
        fill(x, 0, 8, 3);
        x.muster(0, 0);
        x.days(200);
        x.muster(1, 0);
        // No way leads there.
        due(x.twice(3, 0, 1), 2);
        x.road(0, 1, 9);
        due(x.twice(3, 0, 1), 1);
    }

    private static void walls() {
        promise(36);
        FreeLances x = land(1, 1);
        due(x.hold(1, 0, 0, false), BEYOND);
        due(x.hold(0, 1, 0, false), BEYOND);
        due(x.hold(0, 0, -1, false), BEYOND);
        due(x.hold(0, 0, 100, false), BEYOND);
        due(x.hold(0, 0, 0, false), NONE);
        due(x.hold(0, 0, 99, false), 2);
        due(x.hold(0, 0, 50, false), 2);
        due(x.hold(0, 0, 1, false), 100);
        x.wall(0, 400, 0);
        due(x.hold(0, 0, 1, false), 400);
        x.wall(0, 401, 0);
        due(x.hold(0, 0, 1, false), NONE);
        x.wall(0, 10, 29);
        // 10 - 8 + 2 = 4, 4 - 8 + 2 = -2; with 10: 10 - 10 + 2 is still above 0.
        due(x.hold(0, 0, 8, false), 2);
        due(x.hold(0, 0, 10, false), 2);
        due(x.hold(0, 0, 12, false), 1);
        due(x.hold(0, 0, 11, true), 2);
        x.lance(0, 1, 100);
        due(x.hold(0, 0, 11, true), 1);
        due(x.hold(0, 0, 11, false), 2);
        due(x.hold(0, 0, 2, false), NONE);
        due(x.hold(0, 0, 0, true), NONE);
        due(x.townIs(0, 2), 10);
    }

    private static void asking() {
        promise(37);
        FreeLances x = new FreeLances();
        x.town(100, 0);
        due(x.ask(1, 0, -1), BEYOND);
        due(x.ask(0, 4, -1), BEYOND);
        due(x.ask(0, 0, -1), NONE);
        x.sheet(0, 32, 0);
        due(x.ask(0, 0, -1), KIND);
        x.sheet(0, 32, 15);
        due(x.ask(0, 0, -1), KIND);
        x.sheet(0, 32, 4);
        due(x.ask(0, 0, -1), KIND);
        fill(x, 0, 32, 0, 0, 10000);
        due(x.ask(0, 0, 5), KIND);
        fill(x, 0, 32, 0, -1, 0);
        due(x.ask(0, 0, 5), KIND);
        fill(x, 0, 32, 0, 9999, 0);
        due(x.ask(0, 0, -2), BEYOND);
        due(x.ask(0, 0, 1), BEYOND);
        due(x.ask(0, 0, -1), 0);
        due(x.ask(0, 0, 0), 1);
        fill(x, 0, 32, 50, 50, 0);
        due(x.ask(0, 0, -1), 50);
        due(x.ask(0, 0, 0), 0);
        // Each that is paid makes those behind ask 5 more: 20 + 25 + 30 for three, 15 for the loss of one.
        fill(x, 0, 32, 20, 90, 5, 20, 90, 5, 20, 15, 5, 20, 90, 0);
        due(x.ask(0, 0, -1), 90);
        due(x.ask(0, 0, 0), 1);
        due(x.ask(0, 0, 1), 1);
        due(x.ask(0, 0, 2), 0);
        due(x.ask(0, 0, 3), 1);
        // The COIN is enough for one of two alike: the first one isn't paid.
        fill(x, 0, 32, 60, 80, 0, 60, 80, 0);
        due(x.ask(0, 0, -1), 140);
        due(x.ask(0, 0, 0), 0);
        due(x.ask(0, 0, 1), 1);
        fill(x, 0, 32, 50, 80, 0, 50, 80, 0);
        due(x.ask(0, 0, -1), 100);
        due(x.townIs(0, 0), 100);
    }

    private static void parts() {
        promise(38);
        FreeLances x = new FreeLances();
        due(x.parts(-1, 0, 0), BEYOND);
        due(x.parts(100000, 0, 0), BEYOND);
        due(x.parts(0, 4, 0), BEYOND);
        due(x.parts(0, 0, 0), NONE);
        x.sheet(0, 32, 0);
        due(x.parts(0, 0, 0), KIND);
        fill(x, 0, 32, 1, 1000);
        due(x.parts(0, 0, 5), KIND);
        fill(x, 0, 32, 1, -1);
        due(x.parts(0, 0, 5), KIND);
        fill(x, 0, 32, 2, -1);
        due(x.parts(0, 0, 5), KIND);
        fill(x, 0, 32, 999, 0, 1, 500);
        due(x.parts(0, 0, 4), BEYOND);
        due(x.parts(0, 0, -1), BEYOND);
        due(x.parts(0, 0, 0), 0);
        // 99999 * 999 / 1500 = 66599.334, 66.666, 33333.0: one is left, and goes to the 1.
        due(x.parts(99999, 0, 0), 66599);
        due(x.parts(99999, 0, 1), 0);
        due(x.parts(99999, 0, 2), 67);
        due(x.parts(99999, 0, 3), 33333);
        fill(x, 0, 8, 3, 5, 3, 5);
        // 7 * 3 / 16 = 1 and 5 left, 7 * 5 / 16 = 2 and 3 left: one is left over.
        due(x.parts(7, 0, 0), 2);
        due(x.parts(7, 0, 1), 2);
        due(x.parts(7, 0, 2), 1);
        due(x.parts(7, 0, 3), 2);
        promise(39);
        due(x.share(-1), BEYOND);
        due(x.share(100000), BEYOND);
        due(x.share(0), 0);
        due(x.share(99999), 33333);
        due(x.share(5), 1);
        law(x, 3, 1, "c/2");
        due(x.share(9), 3);
        x.days(1);
        due(x.share(9), 4);
        law(x, 3, 0, "c*2");
        due(x.share(9), 9);
        law(x, 3, 0, "0-c");
        due(x.share(9), 0);
    }

    private static void wintering() {
        promise(40);
        FreeLances x = land(2, 3);
        due(x.winter(3, 0, 0), BEYOND);
        due(x.winter(0, 2, 0), BEYOND);
        due(x.winter(0, 0, -1), BEYOND);
        due(x.winter(0, 0, 10000), BEYOND);
        due(x.winter(0, 0, 9999), 0);
        due(x.winter(0, 0, 7), 9999);
        due(x.winter(0, 0, 0), 7);
        promise(41);
        due(x.wintering(-2), BEYOND);
        due(x.wintering(3), BEYOND);
        due(x.wintering(-1), STATE);
        due(x.wintering(2), STATE);
        x.town(0, 0);
        due(x.wintering(-1), 0);
        for (int i = 0; i < 3; i++) {
            due(x.wintering(i), i);
        }
        int[][] costs = {{4, 1, 3}, {2, 0, 5}, {3, 2, 2}};
        for (int c = 0; c < 3; c++) {
            for (int t = 0; t < 3; t++) {
                x.winter(c, t, costs[c][t]);
            }
        }
        due(x.wintering(-1), 5);
        due(x.wintering(0), 1);
        due(x.wintering(1), 0);
        due(x.wintering(2), 2);
        // Both ways cost the same: COMPANY 0 is in the lesser TOWN.
        x = land(2, 2);
        x.winter(0, 0, 5);
        x.winter(0, 1, 3);
        x.winter(1, 0, 2);
        x.winter(1, 1, 0);
        due(x.wintering(-1), 5);
        due(x.wintering(0), 0);
        due(x.wintering(1), 1);
        x.winter(0, 1, 2);
        due(x.wintering(0), 1);
        x = new FreeLances();
        due(x.wintering(-1), 0);
        due(x.wintering(0), BEYOND);
    }

    private static void hiring() {
        promise(42);
        FreeLances x = land(1, 3);
        due(x.hiring(4, 0), BEYOND);
        due(x.hiring(0, 0), NONE);
        x.sheet(0, 32, 0);
        due(x.hiring(0, 0), KIND);
        x.sheet(0, 32, 18);
        due(x.hiring(0, 0), KIND);
        x.sheet(0, 32, 4);
        due(x.hiring(0, 0), KIND);
        fill(x, 0, 32, 1, 10000, 1);
        due(x.hiring(0, 9), KIND);
        fill(x, 0, 32, 1, 9999, -1);
        due(x.hiring(0, 9), KIND);
        fill(x, 0, 32, 1, 9999, 1);
        due(x.hiring(0, -2), BEYOND);
        due(x.hiring(0, 1), BEYOND);
        // None has a LANCE, so the loss is as it is and nobody is hired.
        due(x.hiring(0, -1), 9999);
        due(x.hiring(0, 0), -1);
        for (int i = 0; i < 3; i++) {
            x.lance(1, i, 100);
        }
        x.lance(2, 5, 100);
        x.lance(0, 5, 100);
        due(x.hiring(0, -1), 11);
        due(x.hiring(0, 0), 0);
        // A loss of as much as the hire: none.
        fill(x, 0, 32, 1, 11, 1);
        due(x.hiring(0, 0), -1);
        fill(x, 0, 32, 0, 50, 1);
        due(x.hiring(0, -1), 0);
        // COMPANY 1 meets all three; to keep it in between (3 * 2) is less than to hire it again (10).
        fill(x, 0, 32, 3, 90, 2, 0, 0, 2, 3, 90, 2);
        due(x.hiring(0, -1), 28);
        due(x.hiring(0, 1), 1);
        fill(x, 0, 32, 3, 90, 2, 0, 0, 4, 3, 90, 2);
        due(x.hiring(0, -1), 32);
        due(x.hiring(0, 0), 1);
        due(x.hiring(0, 1), -1);
        due(x.hiring(0, 2), 1);
        x.sheet(0, 32, 15);
        due(x.hiring(0, 4), -1);
        due(x.hiring(0, 5), BEYOND);
    }

    private static void ahead() {
        promise(44);
        FreeLances x = new FreeLances();
        x.town(100, 35);
        x.company(0, 0, 5);
        x.lance(0, 1, 100);
        fill(x, 0, 8, 1);
        x.muster(0, 0);
        x.contract(0, 0, 100, 60);
        x.truce(0, 0, 0, 0);
        x.safe(0, 0, 0, 0, 10);
        due(x.ahead(-1, 0, 0), BEYOND);
        due(x.ahead(201, 0, 0), BEYOND);
        due(x.ahead(0, -1, 0), BEYOND);
        due(x.ahead(0, 7, 0), BEYOND);
        for (int what = 0; what < 6; what++) {
            due(x.ahead(0, what, 1), BEYOND);
            due(x.ahead(0, what, -1), BEYOND);
        }
        due(x.ahead(0, 6, 2), BEYOND);
        due(x.ahead(0, 0, 0), 90);
        due(x.ahead(30, 0, 0), 30);
        due(x.ahead(60, 0, 0), 0);
        due(x.ahead(0, 1, 0), 35);
        due(x.ahead(30, 1, 0), 10);
        due(x.ahead(30, 2, 0), 70);
        due(x.ahead(4, 3, 0), 1);
        due(x.ahead(5, 3, 0), 0);
        due(x.ahead(42, 4, 0), 1);
        due(x.ahead(43, 4, 0), 0);
        due(x.ahead(43, 5, 0), 1);
        due(x.ahead(46, 5, 0), 0);
        due(x.ahead(60, 6, 0), 30);
        due(x.ahead(200, 6, 0), 90);
        due(x.ahead(60, 6, 1), 0);
        due(x.count(6), 0);
        due(x.townIs(0, 0), 90);
        due(x.about(0, 2), 5);
        due(x.about(0, 4), 1);
        due(x.bondIs(0, 7), 0);
        for (int i = 0; i < 14; i++) {
            x.days(200);
        }
        due(x.ahead(200, 1, 0), 0);
        x.days(1);
        due(x.ahead(200, 1, 0), BEYOND);
        due(x.ahead(199, 1, 0), 0);
    }

    private static void voice(FreeLances x, int bond, int act, int n, int want, int... bodies) {
        promise(45);
        due(x.voice(bond, act, n), want);
        promise(46);
        for (int i = 0; i < bodies.length; i++) {
            due(x.trace(i), bodies[i]);
        }
        due(x.trace(bodies.length), NONE);
        due(x.trace(-1), NONE);
        due(x.count(8), bodies.length);
    }

    private static void voices() {
        FreeLances x = land(2, 2);
        x.lance(0, 1, 100);
        x.take(1, 0);
        x.contract(0, 0, 9, 7);
        x.renew(0, 5, 0);
        x.advance(1, 20);
        x.truce(0, 1, 0, 9);
        x.ransom(0, 30);
        x.safe(0, 1, 0, 9, 40);
        promise(45);
        due(x.voice(6, 0, 0), BEYOND);
        due(x.voice(-1, 0, 0), BEYOND);
        due(x.voice(0, -1, 0), BEYOND);
        due(x.voice(0, 4, 0), BEYOND);
        promise(46);
        due(x.trace(0), NONE);
        // CONTRACT 0: n 0, w 7.
        voice(x, 0, 0, 5, 5, 10);
        voice(x, 0, 1, 5, 24, 20, 11, 10);
        voice(x, 0, 2, 5, 8, 21, 12);
        voice(x, 0, 3, 5, 24 ^ 8, 13, 20, 11, 10, 21, 12);
        // RENEWAL 1: n 1, w 7. bind(5) = 18, pay(5) = 50, end(5) = 4 * 2 - 1 + 18 = 25.
        voice(x, 1, 0, 5, 18, 31, 10);
        voice(x, 1, 1, 5, 50, 20, 11, 31, 10);
        voice(x, 1, 2, 5, 25, 30, 21, 12, 31, 10);
        voice(x, 1, 3, 5, 50 ^ 25, 13, 20, 11, 31, 10, 30, 21, 12, 31, 10);
        // ADVANCE 2: n 2, w 20.
        voice(x, 2, 0, 5, 7, 10);
        voice(x, 2, 1, 5, -22, 40, 11, 10);
        voice(x, 2, 2, 5, 8, 12);
        voice(x, 2, 3, 5, -22 ^ 8, 13, 40, 11, 10, 12);
        // TRUCE 3: n 3, w 0.
        voice(x, 3, 0, 5, 8, 51, 10);
        voice(x, 3, 1, 5, 8, 11, 51, 10);
        voice(x, 3, 2, 5, 7, 12);
        voice(x, 3, 3, 5, (8 ^ 7) - 1, 50, 13, 11, 51, 10, 12);
        // RANSOM 4: n 4, w 30. pay(5) = 39, end(5) = 39 - 6.
        voice(x, 4, 1, 5, 39, 11, 10);
        voice(x, 4, 2, 5, 33, 60, 11, 10, 12);
        voice(x, 4, 3, 5, 39 ^ 33, 13, 11, 10, 60, 11, 10, 12);
        // SAFE 5: n 5, w 40. end(5) = 5, then tell(6) of BOND: 51 ^ 7.
        voice(x, 5, 0, 5, 10, 10);
        voice(x, 5, 3, 5, 5 + (51 ^ 7), 70, 12, 13, 11, 10, 12);
        // Ints go round; what was found leaves THE TRACE.
        voice(x, 1, 0, GREATEST, LEAST, 31, 10);
        due(x.voice(6, 0, 0), BEYOND);
        due(x.count(8), 2);
        voice(x, 5, 2, GREATEST, -7, 12);
    }

    private static void sheets() {
        promise(47);
        FreeLances x = new FreeLances();
        due(x.sheet(4, 8, 1), BEYOND);
        due(x.sheet(-1, 8, 1), BEYOND);
        due(x.sheet(0, 9, 1), BEYOND);
        due(x.sheet(0, -8, -1), BEYOND);
        due(x.sheet(4, 8, -1), BEYOND);
        due(x.sheet(0, 8, -1), STATE);
        due(x.sheet(0, 8, LEAST), STATE);
        due(x.sheet(0, 8, 25), BEYOND);
        due(x.sheet(0, 0, -1), 1);
        due(x.put(0, 0, 0), NONE);
        due(x.sheet(0, 8, 24), 1);
        promise(48);
        due(x.put(4, 0, 0), BEYOND);
        due(x.put(1, 99, 0), NONE);
        due(x.put(0, 24, 0), BEYOND);
        due(x.put(0, -1, 0), BEYOND);
        due(x.put(0, 23, 999), 1);
        // 999 is -25 of 8 bits, 999 of 16 and 32; 65537 is 1 of 16.
        due(x.parts(10, 0, 0), KIND);
        due(x.put(0, 23, 256 + 3), 1);
        due(x.parts(10, 0, 23), 10);
        due(x.sheet(0, 8, 24), 1);
        due(x.parts(10, 0, 23), KIND);
        x.sheet(1, 16, 2);
        x.put(1, 0, 65537);
        due(x.parts(10, 1, 0), 10);
        x.put(1, 1, 65535);
        due(x.parts(10, 1, 0), KIND);
        x.put(1, 1, 999);
        due(x.parts(1000, 1, 1), 999);
        x.sheet(2, 32, 1);
        x.put(2, 0, 65537);
        due(x.parts(10, 2, 0), KIND);
        due(x.sheet(2, 0, 9), 1);
        due(x.parts(10, 2, 0), NONE);
        moving();
    }

    private static void moving() {
        promise(49);
        FreeLances x = new FreeLances();
        due(x.move(4, 0, 0, 0, 0), BEYOND);
        due(x.move(0, 0, 4, 0, 0), BEYOND);
        due(x.move(0, 0, 0, 0, -1), NONE);
        fill(x, 0, 8, 1, 2, 3, 4, 5);
        due(x.move(0, 0, 1, 0, 1), NONE);
        due(x.move(1, 0, 0, 0, 1), NONE);
        x.sheet(1, 16, 5);
        due(x.move(0, 0, 1, 0, -1), KIND);
        x.sheet(1, 8, 3);
        due(x.move(0, 0, 1, 0, -1), BEYOND);
        due(x.move(0, -1, 1, 0, 1), BEYOND);
        due(x.move(0, 0, 1, -1, 1), BEYOND);
        due(x.move(0, 3, 1, 0, 3), BEYOND);
        due(x.move(0, 0, 1, 1, 3), BEYOND);
        due(x.move(0, GREATEST, 1, 0, GREATEST), BEYOND);
        due(x.move(0, 1, 1, 1, GREATEST), BEYOND);
        due(x.move(0, LEAST, 1, LEAST, LEAST), BEYOND);
        due(x.move(0, 5, 1, 3, 0), 0);
        due(x.move(0, 6, 1, 3, 0), BEYOND);
        due(x.move(0, 2, 1, 0, 3), 3);
        due(x.parts(12, 1, 0), 3);
        due(x.parts(12, 1, 2), 5);
        due(x.move(0, 0, 0, 1, 4), 4);
        // 1 1 2 3 4
        int[] forth = {1, 1, 2, 3, 4};
        for (int i = 0; i < 5; i++) {
            due(x.parts(11, 0, i), forth[i]);
        }
        due(x.move(0, 1, 0, 0, 4), 4);
        // 1 2 3 4 4
        int[] back = {1, 2, 3, 4, 4};
        for (int i = 0; i < 5; i++) {
            due(x.parts(14, 0, i), back[i]);
        }
    }

    private static void images() {
        promise(51);
        FreeLances x = land(2, 2);
        due(x.restore(), NONE);
        x.lance(0, 1, 100);
        x.road(0, 1, 4);
        feed(x, "1+");
        x.tell(5);
        x.winter(0, 1, 9);
        fill(x, 0, 8, 1);
        x.muster(0, 0);
        x.contract(0, 0, 100, 50);
        x.days(10);
        promise(50);
        due(x.image(), 1);
        due(x.image(), 2);
        x.town(5, 5);
        x.company(1, 0, 0);
        x.lance(2, 9, 100);
        x.road(0, 2, 1);
        x.road(1, 2, 1);
        due(x.far(0, 1), 2);
        x.wall(0, 5, 5);
        feed(x, "7");
        due(x.statute(0, 0), 0);
        x.tell(6);
        x.winter(0, 1, 3);
        x.winter(0, 2, 8);
        x.renew(0, 10, 0);
        x.march(0, 1);
        x.days(30);
        x.muster(0, 0);
        x.voice(0, 1, 1);
        fill(x, 1, 8, 7, 7);
        x.town(-1, -1);
        promise(51);
        due(x.restore(), 10);
        int[] counts = {2, 1, 2, 1, 0, 1, 10, 2, 3, 1, 2200, 1, 0, 0};
        for (int what = 0; what < counts.length; what++) {
            due(x.count(what), counts[what]);
        }
        due(x.far(0, 1), 4);
        due(x.townIs(0, 0), 1000);
        due(x.townIs(0, 1), 990);
        due(x.townIs(0, 2), 100);
        due(x.about(0, 0), 0);
        due(x.about(0, 8), 0);
        due(x.parts(10, 1, 0), 5);
        due(x.found(1), 1);
        due(x.found(2), 1);
        due(law(x, 0, 0, "5"), 0);
        due(x.says(0, 0, 0, 0), 6);
        due(x.renew(0, 10, 0), 1);
        due(x.town(0, 0), 2);
        due(x.far(0, 2), NONE);
        due(x.winter(0, 2, 0), 0);
        due(x.winter(0, 1, 0), 9);
        due(x.company(2, 0, 0), 2);
        due(x.about(2, 4), 0);
        due(x.restore(), 10);
        due(x.count(5), 1);
        due(x.days(1), 11);
        promise(50);
        due(x.image(), 3);
        due(x.restore(), 11);
        due(x.count(5), 1);
    }

    private static void judging() {
        promise(52);
        FreeLances x = land(1, 2);
        due(x.tell(LEAST), 1);
        for (int i = 2; i <= 20; i++) {
            due(x.tell(i), i);
        }
        due(x.tell(0), FULL);
        due(x.count(9), 20);
        promise(53);
        due(x.judge(), STATE);
        due(x.count(9), 0);
        x.town(0, 0);
        due(x.judge(), 1);
        int[][] costs = {{4, 6}, {2, 9}};
        for (int c = 0; c < 2; c++) {
            x.winter(c, 0, costs[c][0]);
            x.winter(c, 1, costs[c][1]);
        }
        due(x.wintering(-1), 8);
        judge(x, 0, 6, 4, -2, 0);
        judge(x, 1, 6, 4, -2);
        judge(x, 1, 6, 4, -2, 0, 0);
        judge(x, 2, 60, 4, 1, -9);
        judge(x, 2, 3, 0, 0, 1);
        judge(x, 3, 6, 4, -1, 0);
        judge(x, 3, 7, 4, -3, 0);
        judge(x, 4, 6, 3, -2, 0);
        judge(x, 4, 6, 4, -2, -1);
        // These are far below what it costs, and go round to it as ints.
        judge(x, 4, LEAST, LEAST + 8, 0, 0);
        judge(x, 3, GREATEST, 0, 0, 0);
        judge(x, 4, LEAST, 0, LEAST, 0);
        due(x.count(9), 0);
        x = new FreeLances();
        due(x.judge(), 0);
    }

    private static void judge(FreeLances x, int want, int... rows) {
        for (int row : rows) {
            x.tell(row);
        }
        due(x.judge(), want);
    }

    private static void counting() {
        promise(54);
        FreeLances x = land(2, 2);
        x.road(0, 1, 1);
        x.lance(0, 1, 100);
        x.lance(1, 1, 100);
        x.take(1, 1);
        law(x, 0, 0, "1");
        feed(x, "123");
        x.tell(1);
        x.tell(1);
        x.contract(0, 0, 50, 1);
        x.contract(100, 50, 60, 1);
        x.truce(0, 1, 0, 1);
        x.voice(0, 1, 1);
        x.days(7);
        int[] counts = {2, 1, 2, 2, 1, 3, 7, 3, 3, 2, 2200, 1, 1, 0};
        for (int what = 0; what < counts.length; what++) {
            due(x.count(what), counts[what]);
        }
        due(x.count(14), BEYOND);
        due(x.count(-1), BEYOND);
        due(x.found(1), 2);
    }

    private static void findings() {
        promise(55);
        FreeLances x = new FreeLances();
        for (int k = 1; k <= 5; k++) {
            due(x.found(k), 0);
        }
        due(x.found(0), BEYOND);
        due(x.found(6), BEYOND);
        due(x.found(LEAST), BEYOND);
        due(x.found(1), 3);
        due(x.restore(), NONE);
        due(x.trace(0), NONE);
        due(x.sheet(0, 8, -1), STATE);
        x.sheet(0, 8, 0);
        due(x.parts(0, 0, 0), KIND);
        for (int i = 0; i < 20; i++) {
            x.tell(0);
        }
        due(x.tell(0), FULL);
        due(x.tell(0), FULL);
        due(x.tell(0), FULL);
        due(x.statute(0, 0), -10);
        due(x.found(1), 3);
        due(x.found(2), 2);
        due(x.found(3), 1);
        due(x.found(4), 3);
        due(x.found(5), 1);
        // Numbers as low as findings that are no findings are not counted.
        law(x, 0, 0, "h");
        due(x.says(0, BEYOND, 0, 0), BEYOND);
        due(x.found(1), 3);
    }

    private static void edgesOfBonds() {
        promise(21);
        FreeLances x = land(2, 2);
        x.contract(0, 0, 0, 1);
        due(x.renew(0, 401, 0), BEYOND);
        due(x.renew(0, 400, 0), 1);
        due(x.bondIs(1, 2), 1);
        due(x.bondIs(1, 3), 400);
        promise(32);
        due(x.free(0, false), 401);
        due(x.free(1, false), 0);
        x.contract(1, 0, 0, 1);
        due(x.free(1, false), 1);
        due(x.free(1, true), 31);
        promise(31);
        // On day 0, and against TOWN 0.
        x = land(2, 2);
        x.contract(110, 0, 5, 1);
        x.safe(0, 0, 0, 0, 1);
        due(x.clash(0, 1), 1);
        due(x.clash(0, 2), 0);
        due(x.count(12), 1);
        x = land(2, 2);
        x.contract(1, 0, 9, 1);
        x.contract(110, 0, 5, 1);
        x.truce(0, 1, 0, 5);
        x.contract(1, 3, 9, 1);
        due(x.count(12), 1);
        due(x.clash(0, 0), 1);
        due(x.clash(0, 1), 2);
        due(x.clash(0, 2), 0);
        promise(29);
        x = new FreeLances();
        x.town(0, 9999);
        x.company(0, 10, 0);
        x.contract(0, 0, 100, 10);
        law(x, 1, 0, "p");
        x.days(30);
        due(x.bondIs(0, 8), 30);
        x.buy(0, 10);
        due(x.pay(0, 10), 0);
        due(x.bondIs(0, 8), -1);
        due(x.about(0, 1), 10);
        promise(22);
        // What is left of an ADVANCE stays for later MONTHS.
        x.buy(0, 10);
        due(x.advance(0, 10), 1);
        law(x, 1, 0, "4");
        x.days(30);
        due(x.bondIs(0, 9), 6);
        due(x.bondIs(0, 7), 0);
        x.days(30);
        due(x.bondIs(0, 9), 2);
    }

    private static void edgesOfLances() {
        promise(25);
        FreeLances x = land(2, 0);
        x.company(1, 5, 0);
        x.lance(0, 1, 100);
        due(x.take(0, 0), 1);
        due(x.lanceIs(0, 4), 0);
        due(x.ransom(0, 5), 0);
        due(x.townIs(0, 0), 1005);
        promise(33);
        fill(x, 3, 8, 1, 2, 3, 4, 5, 6, 7, 8, 9, 10, 11, 12);
        due(x.muster(0, 3), 1);
        x.company(1, 0, 0);
        due(x.muster(1, 3), 0);
        promise(35);
        due(x.shown(0), 1);
        due(x.shown(11), 12);
        due(x.shown(12), NONE);
        promise(44);
        x = land(1, 2);
        due(x.ahead(0, 2, 1), 100);
        due(x.ahead(0, 3, 1), 0);
        promise(36);
        x.wall(0, 10, 10);
        due(x.hold(0, 0, 10, false), 2);
        x.wall(0, 10, 9);
        due(x.hold(0, 0, 10, false), 1);
        promise(43);
        x = new FreeLances();
        x.town(0, 0);
        x.company(0, 0, 0);
        x.lance(0, 1, 100);
        x.days(3);
        due(x.about(0, 5), 1);
        x.harvest(0, 1);
        x.days(1);
        due(x.about(0, 4), 1);
        promise(14);
        // Nothing is OWED, so no CONTRACT lets them leave; then 1 is.
        x.company(0, 0, 0);
        x.contract(0, 0, 100, 1);
        law(x, 2, 0, "1");
        x.harvest(0, 100);
        due(x.over(0, 1), STATE);
        law(x, 1, 0, "1");
        x.days(26);
        due(x.bondIs(0, 7), 1);
        due(x.over(0, 1), 0);
    }

    private static void edgesOfPlans() {
        promise(42);
        FreeLances x = land(1, 5);
        for (int c = 0; c < 5; c++) {
            for (int i = 0; i <= c; i++) {
                x.lance(c, i, 100);
            }
        }
        // So many LANCES as COMPANY 0, 4, 2 has, at a price at which no more are kept.
        fill(x, 0, 32, 1, 999, 20, 5, 999, 20, 3, 999, 20);
        due(x.hiring(0, -1), 30 + 110 + 70);
        due(x.hiring(0, 0), 0);
        due(x.hiring(0, 1), 4);
        due(x.hiring(0, 2), 2);
        // Free LANCES: the greatest from the first SEASON on saves the 10 of another one.
        fill(x, 0, 32, 1, 999, 0, 5, 999, 0, 3, 999, 0);
        due(x.hiring(0, -1), 10);
        due(x.hiring(0, 0), 4);
        due(x.hiring(0, 2), 4);
        promise(41);
        x = land(8, 5);
        for (int c = 0; c < 5; c++) {
            for (int t = 0; t < 8; t++) {
                x.winter(c, t, t == 7 - c ? 1 : 5);
            }
        }
        due(x.wintering(-1), 5);
        for (int c = 0; c < 5; c++) {
            due(x.wintering(c), 7 - c);
        }
        promise(47);
        due(x.sheet(3, 32, 24), 1);
        x.put(3, 0, 5);
        due(x.parts(9, 3, 0), 9);
        due(x.sheet(3, 32, 24), 1);
        due(x.parts(9, 3, 0), KIND);
    }

    private static void edgesOfRestoring() {
        promise(51);
        FreeLances x = land(1, 1);
        law(x, 0, 0, "1");
        law(x, 1, 0, "2");
        x.image();
        x = restoredWithOthers(x);
        due(x.says(0, 0, 0, 0), 1);
        due(x.says(1, 0, 0, 0), 2);
        due(x.says(2, 0, 0, 0), BEYOND);
        // COMPANY 1 comes anew, without what an older COMPANY 1 had.
        due(x.company(0, 7, 7), 1);
        int[] fresh = {0, 7, 7, 0, 0, 0, -1, -1, -1};
        for (int what = 0; what < fresh.length; what++) {
            due(x.about(1, what), fresh[what]);
        }
        due(x.winter(1, 0, 0), 0);
        fill(x, 0, 8, -1);
        due(x.muster(1, 0), 0);
        due(x.twice(3, 0, 1), 0);
        due(x.lance(1, 1, 100), 0);
        due(x.lanceIs(0, 4), -1);
        due(x.contract(0, 0, 1, 1), 0);
        due(x.bondIs(0, 7), 0);
        due(x.renew(0, 1, 0), 1);
        due(x.town(3, 3), 1);
        due(x.townIs(1, 2), 100);
        due(x.far(0, 1), NONE);
    }

    private static FreeLances restoredWithOthers(FreeLances x) {
        x.town(0, 0);
        x.road(0, 1, 1);
        x.wall(1, 5, 5);
        x.company(0, 0, 0);
        x.winter(1, 0, 9);
        x.lance(1, 3, 100);
        fill(x, 0, 8, 3);
        x.muster(0, 0);
        x.muster(1, 0);
        x.take(1, 0);
        x.contract(0, 0, 100, 1);
        x.renew(0, 1, 1);
        law(x, 0, 0, "3");
        x.days(30);
        x.restore();
        law(x, 0, 0, "4");
        x.restore();
        return x;
    }
}
