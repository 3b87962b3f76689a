/**
 * Companies that sell lances by the month. The document (DOC.md) tells what each call answers; its
 * words in capitals are the names here. README.md tells how to use the class.
 */
public final class FreeLances {
    private static final int LOW = -1000000;
    private static final int BEYOND = 1;
    private static final int NONE = 2;
    private static final int STATE = 3;
    private static final int FULL = 4;
    private static final int KIND = 5;

    private static final int LAST_DAY = 3000;
    private static final int MOST_DAYS_AT_ONCE = 200;
    private static final int MONTH = 30;
    private static final int MOST_TOWNS = 8;
    private static final int MOST_ROADS = 16;
    private static final int MOST_COMPANIES = 5;
    private static final int MOST_LANCES = 40;
    private static final int MOST_STATUTES = 12;
    private static final int MOST_BONDS = 24;
    private static final int MOST_SHOWN = 12;
    private static final int MOST_WAITING = 20;
    private static final int MOST_TRACED = 40;
    private static final int MOST_IN_SHEET = 24;
    private static final int SHEETS = 4;
    private static final int MARKS = 100;
    private static final int TAPE_LENGTH = 50;
    private static final int MOST_OPEN = 5;
    private static final int MOST_DIGITS = 4;
    private static final int MOST_DUE = 99999;
    private static final int MOST_SEASONS = 5;
    private static final int NEWLY_HIRED = 10;

    // Far above the longest way (16 roads of 9 days), and low enough that two of them and a road still add up.
    private static final int NO_WAY = 1000000;

    // Far above what any plan can cost.
    private static final int NO_COST = 1000000000;

    private static final int FIT = 0;
    private static final int SICK = 1;
    private static final int AWAY = 2;
    private static final int DEAD = 3;

    private static final int USE_LANCE = 0;
    private static final int USE_PAY = 1;
    private static final int USE_LEAVE = 2;
    private static final int USE_SHARE = 3;

    private static final int BOND = 0;
    private static final int CONTRACT = 1;
    private static final int RENEWAL = 2;
    private static final int ADVANCE = 3;
    private static final int TRUCE = 4;
    private static final int RANSOM = 5;
    private static final int SAFE = 6;

    private static final int ACTS = 4;
    private static final int BIND = 0;
    private static final int PAY = 1;
    private static final int END = 2;
    private static final int TELL = 3;

    /** For each KIND the one above it. */
    private static final int[] ABOVE = {-1, BOND, CONTRACT, BOND, BOND, BOND, BOND};

    /** For each KIND its BODIES of bind, pay, end, tell; 0: the KIND above has it. */
    private static final int[] BODIES = {
        10, 11, 12, 13,
        0, 20, 21, 0,
        31, 0, 30, 0,
        0, 40, 0, 0,
        51, 0, 0, 50,
        0, 0, 60, 0,
        0, 0, 0, 70,
    };

    private final World world;
    private final World kept;
    private final World trial;
    private final Sheet[] sheets;
    private final Voices voices;
    private final Plans plans;
    private final int[] findings;
    private int images;

    public FreeLances() {
        world = new World();
        kept = new World();
        trial = new World();
        sheets = new Sheet[SHEETS];
        for (int i = 0; i < SHEETS; i++) {
            sheets[i] = new Sheet();
        }
        voices = new Voices();
        plans = new Plans();
        findings = new int[KIND + 1];
        images = 0;
    }

    // ---- towns, companies, lances

    public int town(int coin, int bread) {
        if (!within(coin, 0, 99999) || !within(bread, 0, 99999)) {
            return finding(BEYOND);
        }
        if (world.townCount >= MOST_TOWNS) {
            return finding(FULL);
        }
        world.towns[world.townCount].begin(coin, bread);
        return world.townCount++;
    }

    public int road(int a, int b, int days) {
        if (!isTown(a) || !isTown(b) || a == b || !within(days, 1, 9)) {
            return finding(BEYOND);
        }
        if (world.roadCount >= MOST_ROADS) {
            return finding(FULL);
        }
        world.join(a, b, days);
        return ++world.roadCount;
    }

    public int far(int a, int b) {
        if (!isTown(a) || !isTown(b)) {
            return finding(BEYOND);
        }
        int way = world.way(a, b);
        return way >= NO_WAY ? finding(NONE) : way;
    }

    public int townIs(int town, int what) {
        if (!isTown(town)) {
            return finding(BEYOND);
        }
        Town it = world.towns[town];
        switch (what) {
            case 0: return it.coin;
            case 1: return it.bread;
            case 2: return it.wall;
            case 3: return it.guns;
            case 4: return world.lyingIn(town);
            default: return finding(BEYOND);
        }
    }

    public int wall(int town, int wall, int guns) {
        if (!isTown(town) || !within(wall, 0, 999) || !within(guns, 0, 99)) {
            return finding(BEYOND);
        }
        world.towns[town].wall = wall;
        world.towns[town].guns = guns;
        return 1;
    }

    public int harvest(int town, int n) {
        if (!isTown(town) || !within(n, 1, 9999)) {
            return finding(BEYOND);
        }
        Town it = world.towns[town];
        if (it.bread + n > 999999) {
            return finding(FULL);
        }
        it.bread += n;
        return it.bread;
    }

    public int company(int town, int coin, int bread) {
        if (!isTown(town) || !within(coin, 0, 9999) || !within(bread, 0, 9999)) {
            return finding(BEYOND);
        }
        if (world.companyCount >= MOST_COMPANIES) {
            return finding(FULL);
        }
        world.companies[world.companyCount].begin(town, coin, bread);
        return world.companyCount++;
    }

    public int march(int company, int town) {
        if (!isCompany(company) || !isTown(town)) {
            return finding(BEYOND);
        }
        Company it = world.companies[company];
        if (it.marches() || it.town == town) {
            return finding(STATE);
        }
        int way = world.way(it.town, town);
        if (way >= NO_WAY) {
            return finding(NONE);
        }
        it.town = -1;
        it.goal = town;
        it.arrival = world.day + way;
        return it.arrival;
    }

    public int buy(int company, int n) {
        if (!isCompany(company) || !within(n, 1, 9999)) {
            return finding(BEYOND);
        }
        Company buyer = world.companies[company];
        if (buyer.marches()) {
            return finding(STATE);
        }
        Town seller = world.towns[buyer.town];
        if (buyer.coin < n || seller.bread < n) {
            return finding(NONE);
        }
        buyer.coin -= n;
        seller.coin += n;
        seller.bread -= n;
        buyer.bread += n;
        return buyer.bread;
    }

    public int about(int company, int what) {
        if (!isCompany(company)) {
            return finding(BEYOND);
        }
        Company it = world.companies[company];
        switch (what) {
            case 0: return it.town;
            case 1: return it.coin;
            case 2: return it.bread;
            case 3: return it.hunger;
            case 4: return it.fit;
            case 5: return it.sick;
            case 6: return world.served(company, world.day);
            case 7: return it.counted;
            case 8: return it.musterDay;
            default: return finding(BEYOND);
        }
    }

    public int lance(int company, int mark, int height) {
        if (!isCompany(company) || !isMark(mark) || !within(height, 100, 180)) {
            return finding(BEYOND);
        }
        if (world.lanceCount >= MOST_LANCES) {
            return finding(FULL);
        }
        world.lances[world.lanceCount].begin(company, mark, height);
        world.companies[company].fit++;
        return world.lanceCount++;
    }

    public int lanceIs(int lance, int what) {
        if (!isLance(lance)) {
            return finding(BEYOND);
        }
        Lance it = world.lances[lance];
        switch (what) {
            case 0: return it.company;
            case 1: return it.mark;
            case 2: return it.height;
            case 3: return it.how;
            case 4: return it.holder;
            default: return finding(BEYOND);
        }
    }

    public int over(int lance, int company) {
        if (!isLance(lance) || !isCompany(company) || world.lances[lance].company == company) {
            return finding(BEYOND);
        }
        Lance it = world.lances[lance];
        int old = it.company;
        if (!it.present() || !world.mayGo(old) || !world.together(old, company)) {
            return finding(STATE);
        }
        world.companies[old].part(it.how);
        it.company = company;
        world.companies[company].join(it.how);
        return old;
    }

    public int take(int town, int lance) {
        if (!isTown(town) || !isLance(lance)) {
            return finding(BEYOND);
        }
        Lance it = world.lances[lance];
        if (!it.present() || world.companies[it.company].town == town) {
            return finding(STATE);
        }
        world.become(it, AWAY);
        it.holder = town;
        return 1;
    }

    // ---- statutes

    public int feed(long word, int n) {
        if (!within(n, 1, 8)) {
            return finding(BEYOND);
        }
        if (world.tapeLength + n > TAPE_LENGTH) {
            return finding(FULL);
        }
        for (int i = 0; i < n; i++) {
            world.tape[world.tapeLength + i] = (byte) (word >>> (8 * i));
        }
        world.tapeLength += n;
        return world.tapeLength;
    }

    public int statute(int use, int from) {
        if (!isUse(use) || !isDay(from)) {
            return finding(BEYOND);
        }
        if (world.statuteCount >= MOST_STATUTES) {
            return finding(FULL);
        }
        int length = world.tapeLength;
        world.tapeLength = 0;
        int fault = world.reader.faultOf(world.tape, length, use);
        if (fault >= 0) {
            return -10 - fault;
        }
        world.statutes[world.statuteCount].begin(use, from, world.tape, length);
        return world.statuteCount++;
    }

    public int force(int use, int day) {
        if (!isUse(use) || !isDay(day)) {
            return finding(BEYOND);
        }
        int number = world.inForce(use, day);
        return number < 0 ? finding(NONE) : number;
    }

    public int says(int statute, int a, int b, int c) {
        if (!within(statute, 0, world.statuteCount - 1)) {
            return finding(BEYOND);
        }
        return world.reader.workOut(world.statutes[statute], a, b, c);
    }

    // ---- bonds

    public int contract(int parties, int first, int last, int pay) {
        int company = parties % 10;
        int foe = parties / 10 % 10 - 1;
        int town = parties / 100;
        if (parties < 0 || !isTown(town) || !isCompany(company) || foe >= world.townCount || foe == town) {
            return finding(BEYOND);
        }
        if (!areDays(first, last) || !within(pay, 0, 999)) {
            return finding(BEYOND);
        }
        if (world.bondsFull()) {
            return finding(FULL);
        }
        Bond made = newBond(CONTRACT, company, pay);
        made.first = first;
        made.last = last;
        made.town = town;
        made.foe = foe;
        return world.bondCount++;
    }

    public int renew(int bond, int days, int wish) {
        if (!isBond(bond) || !within(days, 1, 400) || !within(wish, 0, 1)) {
            return finding(BEYOND);
        }
        Bond old = world.bonds[bond];
        if (old.last + days > LAST_DAY) {
            return finding(BEYOND);
        }
        if (!old.isContract()) {
            return finding(KIND);
        }
        if (old.renewed) {
            return finding(STATE);
        }
        if (world.bondsFull()) {
            return finding(FULL);
        }
        old.renewed = true;
        Bond made = newBond(RENEWAL, old.company, old.sum);
        made.first = old.last + 1;
        made.last = old.last + days;
        made.town = old.town;
        made.foe = old.foe;
        made.other = bond;
        return world.bondCount++;
    }

    public int advance(int bond, int sum) {
        if (!isBond(bond) || !within(sum, 1, 9999)) {
            return finding(BEYOND);
        }
        Bond on = world.bonds[bond];
        if (!on.isContract()) {
            return finding(KIND);
        }
        if (world.towns[on.town].coin < sum) {
            return finding(NONE);
        }
        if (world.bondsFull()) {
            return finding(FULL);
        }
        world.coinToCompany(on.town, on.company, sum);
        on.advanced += sum;
        Bond made = newBond(ADVANCE, on.company, sum);
        made.town = on.town;
        made.other = bond;
        return world.bondCount++;
    }

    public int truce(int a, int b, int first, int last) {
        if (!isCompany(a) || !isCompany(b) || a == b || !areDays(first, last)) {
            return finding(BEYOND);
        }
        if (world.bondsFull()) {
            return finding(FULL);
        }
        Bond made = newBond(TRUCE, a, 0);
        made.first = first;
        made.last = last;
        made.other = b;
        return world.bondCount++;
    }

    public int safe(int company, int town, int first, int last, int sum) {
        if (!isCompany(company) || !isTown(town) || !areDays(first, last) || !within(sum, 0, 9999)) {
            return finding(BEYOND);
        }
        if (world.towns[town].coin < sum) {
            return finding(NONE);
        }
        if (world.bondsFull()) {
            return finding(FULL);
        }
        world.coinToCompany(town, company, sum);
        Bond made = newBond(SAFE, company, sum);
        made.first = first;
        made.last = last;
        made.town = town;
        return world.bondCount++;
    }

    public int ransom(int lance, int sum) {
        if (!isLance(lance) || !within(sum, 0, 9999)) {
            return finding(BEYOND);
        }
        Lance it = world.lances[lance];
        if (it.holder < 0) {
            return finding(STATE);
        }
        if (world.companies[it.company].coin < sum) {
            return finding(NONE);
        }
        if (world.bondsFull()) {
            return finding(FULL);
        }
        world.coinToCompany(it.holder, it.company, -sum);
        Bond made = newBond(RANSOM, it.company, sum);
        made.town = it.holder;
        made.other = lance;
        it.holder = -1;
        world.become(it, FIT);
        return world.bondCount++;
    }

    public int as(int bond, int kind) {
        if (!isBond(bond) || !within(kind, BOND, SAFE)) {
            return finding(BEYOND);
        }
        Bond it = world.bonds[bond];
        return it.isOf(kind) ? it.sum : finding(KIND);
    }

    public int bondIs(int bond, int what) {
        if (!isBond(bond)) {
            return finding(BEYOND);
        }
        Bond it = world.bonds[bond];
        switch (what) {
            case 0: return it.kind;
            case 1: return it.company;
            case 2: return it.first;
            case 3: return it.last;
            case 4: return it.town;
            case 5: return it.foe;
            case 6: return it.other;
            case 7: return it.owed;
            case 8: return it.since;
            case 9: return it.advanced;
            default: return finding(BEYOND);
        }
    }

    public int stop(int bond, int n) {
        if (!isBond(bond) || !within(n, 1, 9999)) {
            return finding(BEYOND);
        }
        Bond it = world.bonds[bond];
        if (!it.isContract()) {
            return finding(KIND);
        }
        if (it.owed < n) {
            return finding(STATE);
        }
        it.oweLess(n);
        return it.owed;
    }

    public int pay(int bond, int n) {
        if (!isBond(bond) || !within(n, 1, 9999)) {
            return finding(BEYOND);
        }
        Bond it = world.bonds[bond];
        if (!it.isContract()) {
            return finding(KIND);
        }
        if (it.owed < n) {
            return finding(STATE);
        }
        if (world.towns[it.town].coin < n) {
            return finding(NONE);
        }
        world.coinToCompany(it.town, it.company, n);
        it.oweLess(n);
        return it.owed;
    }

    public int serves(int company, int day) {
        if (!isCompany(company) || !isDay(day)) {
            return finding(BEYOND);
        }
        int town = world.served(company, day);
        return town < 0 ? finding(NONE) : town;
    }

    public int clash(int i, int what) {
        if (i < 0 || !within(what, 0, 2)) {
            return finding(BEYOND);
        }
        int left = i;
        for (int lesser = 0; lesser < world.bondCount; lesser++) {
            for (int greater = lesser + 1; greater < world.bondCount; greater++) {
                int day = world.clashDay(world.bonds[lesser], world.bonds[greater]);
                if (day >= 0 && left-- == 0) {
                    return what == 0 ? lesser : what == 1 ? greater : day;
                }
            }
        }
        return finding(NONE);
    }

    public int free(int company, boolean worst) {
        if (!isCompany(company)) {
            return finding(BEYOND);
        }
        int day = world.firstFree(company, worst);
        return day > LAST_DAY ? finding(NONE) : day;
    }

    // ---- musters

    public int muster(int company, int sheet) {
        if (!isCompany(company) || !isSheet(sheet)) {
            return finding(BEYOND);
        }
        Sheet marks = sheets[sheet];
        if (marks.missing()) {
            return finding(NONE);
        }
        Company it = world.companies[company];
        if (it.marches()) {
            return finding(STATE);
        }
        if (marks.length > MOST_SHOWN || !marks.allWithin(-1, MARKS - 1)) {
            return finding(KIND);
        }
        it.show(marks);
        it.musterDay = world.day;
        it.musterTown = it.town;
        it.counted = world.countShown(company);
        return it.counted;
    }

    public int twice(int mark, int a, int b) {
        if (!isMark(mark) || !isCompany(a) || !isCompany(b) || a == b) {
            return finding(BEYOND);
        }
        Company one = world.companies[a];
        Company two = world.companies[b];
        if (!one.shows(mark, one.shownCount) || !two.shows(mark, two.shownCount)) {
            return 0;
        }
        int between = Math.abs(one.musterDay - two.musterDay);
        return between < world.way(one.musterTown, two.musterTown) ? 2 : 1;
    }

    public int shown(int i) {
        if (i < 0) {
            return finding(BEYOND);
        }
        int left = i;
        for (int mark = 0; mark < MARKS; mark++) {
            if (world.showing(mark) >= 2 && left-- == 0) {
                return mark;
            }
        }
        return finding(NONE);
    }

    // ---- walls, asking, parts

    public int hold(int town, int company, int guns, boolean twice) {
        if (!isTown(town) || !isCompany(company) || !within(guns, 0, 99)) {
            return finding(BEYOND);
        }
        Town it = world.towns[town];
        int blow = twice ? guns + world.companies[company].fit : guns;
        int wall = it.wall;
        for (int day = 1; day <= 400; day++) {
            wall = Math.min(wall - blow + it.guns / 10, it.wall);
            if (wall <= 0) {
                return day;
            }
        }
        return finding(NONE);
    }

    public int ask(int town, int sheet, int what) {
        if (!isTown(town) || !isSheet(sheet)) {
            return finding(BEYOND);
        }
        Sheet asked = sheets[sheet];
        if (asked.missing()) {
            return finding(NONE);
        }
        if (!asked.inThrees(4)) {
            return finding(KIND);
        }
        int askers = asked.length / 3;
        if (!within(what, -1, askers - 1)) {
            return finding(BEYOND);
        }
        int coin = world.towns[town].coin;
        int way = plans.cheapestWay(asked.numbers, askers, coin);
        return what < 0 ? plans.costOfWay(asked.numbers, askers, coin, way) : way >> (askers - 1 - what) & 1;
    }

    public int parts(int sum, int sheet, int i) {
        if (!within(sum, 0, 99999) || !isSheet(sheet)) {
            return finding(BEYOND);
        }
        Sheet by = sheets[sheet];
        if (by.missing()) {
            return finding(NONE);
        }
        int total = by.total();
        // A total of 0 is what no numbers, or none but 0, come to: neither can be a divisor.
        if (!by.allWithin(0, 999) || total <= 0) {
            return finding(KIND);
        }
        if (!within(i, 0, by.length - 1)) {
            return finding(BEYOND);
        }
        return plans.partOf(sum, by, total, i);
    }

    public int share(int c) {
        if (!within(c, 0, 99999)) {
            return finding(BEYOND);
        }
        int number = world.inForce(USE_SHARE, world.day);
        if (number < 0) {
            return c / 3;
        }
        int said = world.reader.workOut(world.statutes[number], c, 0, 0);
        return Math.max(0, Math.min(c, said));
    }

    // ---- winter, hiring

    public int winter(int company, int town, int cost) {
        if (!isCompany(company) || !isTown(town) || !within(cost, 0, 9999)) {
            return finding(BEYOND);
        }
        int[] costs = world.companies[company].winterCosts;
        int was = costs[town];
        costs[town] = cost;
        return was;
    }

    public int wintering(int what) {
        if (!within(what, -1, world.companyCount - 1)) {
            return finding(BEYOND);
        }
        if (world.townCount < world.companyCount) {
            return finding(STATE);
        }
        int cost = plans.winterCost(world);
        return what < 0 ? cost : plans.winterTown(world, what);
    }

    public int hiring(int sheet, int what) {
        if (!isSheet(sheet)) {
            return finding(BEYOND);
        }
        Sheet seasons = sheets[sheet];
        if (seasons.missing()) {
            return finding(NONE);
        }
        if (!seasons.inThrees(MOST_SEASONS)) {
            return finding(KIND);
        }
        int count = seasons.length / 3;
        if (!within(what, -1, count - 1)) {
            return finding(BEYOND);
        }
        int least = plans.hireCost(world, seasons.numbers, count);
        return what < 0 ? least : plans.hiredIn(world, seasons.numbers, count, what);
    }

    // ---- days, ahead

    public int days(int n) {
        if (!within(n, 1, MOST_DAYS_AT_ONCE) || world.day + n > LAST_DAY) {
            return finding(BEYOND);
        }
        for (int i = 0; i < n; i++) {
            world.endDay();
        }
        return world.day;
    }

    public int ahead(int n, int what, int i) {
        if (!within(n, 0, MOST_DAYS_AT_ONCE) || world.day + n > LAST_DAY || !within(what, 0, 6)) {
            return finding(BEYOND);
        }
        boolean such = what < 2 ? isTown(i) : what < 6 ? isCompany(i) : isBond(i);
        if (!such) {
            return finding(BEYOND);
        }
        trial.copy(world);
        for (int day = 0; day < n; day++) {
            trial.endDay();
        }
        switch (what) {
            case 0: return trial.towns[i].coin;
            case 1: return trial.towns[i].bread;
            case 2: return trial.companies[i].coin;
            case 3: return trial.companies[i].bread;
            case 4: return trial.companies[i].fit;
            case 5: return trial.companies[i].sick;
            default: return trial.bonds[i].owed;
        }
    }

    // ---- voices, sheets, images, what is told

    public int voice(int bond, int act, int x) {
        if (!isBond(bond) || !within(act, BIND, TELL)) {
            return finding(BEYOND);
        }
        Bond it = world.bonds[bond];
        return voices.speak(it.kind, bond, it.sum, act, x);
    }

    public int trace(int i) {
        return within(i, 0, voices.length - 1) ? voices.begun[i] : finding(NONE);
    }

    public int sheet(int sheet, int bits, int n) {
        if (!isSheet(sheet) || bits != 0 && bits != 8 && bits != 16 && bits != 32) {
            return finding(BEYOND);
        }
        if (bits != 0 && n < 0) {
            return finding(STATE);
        }
        if (bits != 0 && n > MOST_IN_SHEET) {
            return finding(BEYOND);
        }
        sheets[sheet].begin(bits, bits == 0 ? 0 : n);
        return 1;
    }

    public int put(int sheet, int i, int v) {
        if (!isSheet(sheet)) {
            return finding(BEYOND);
        }
        Sheet it = sheets[sheet];
        if (it.missing()) {
            return finding(NONE);
        }
        if (!within(i, 0, it.length - 1)) {
            return finding(BEYOND);
        }
        it.numbers[i] = it.cut(v);
        return 1;
    }

    public int move(int sheet, int i, int other, int j, int n) {
        if (!isSheet(sheet) || !isSheet(other)) {
            return finding(BEYOND);
        }
        Sheet from = sheets[sheet];
        Sheet to = sheets[other];
        if (from.missing() || to.missing()) {
            return finding(NONE);
        }
        if (from.bits != to.bits) {
            return finding(KIND);
        }
        if (!from.stand(i, n) || !to.stand(j, n)) {
            return finding(BEYOND);
        }
        System.arraycopy(from.numbers, i, to.numbers, j, n);
        return n;
    }

    public int image() {
        kept.copy(world);
        images++;
        return images;
    }

    public int restore() {
        if (images == 0) {
            return finding(NONE);
        }
        world.copy(kept);
        return world.day;
    }

    public int tell(int v) {
        if (world.waitingCount >= MOST_WAITING) {
            return finding(FULL);
        }
        world.waiting[world.waitingCount] = v;
        world.waitingCount++;
        return world.waitingCount;
    }

    public int judge() {
        int told = world.waitingCount;
        world.waitingCount = 0;
        if (world.townCount < world.companyCount) {
            return finding(STATE);
        }
        if (told != world.companyCount + world.townCount) {
            return 1;
        }
        if (world.townRowAboveZero()) {
            return 2;
        }
        if (world.rowsAboveCost()) {
            return 3;
        }
        return world.rowsTogether() == plans.winterCost(world) ? 0 : 4;
    }

    public int count(int what) {
        switch (what) {
            case 0: return world.townCount;
            case 1: return world.roadCount;
            case 2: return world.companyCount;
            case 3: return world.lanceCount;
            case 4: return world.statuteCount;
            case 5: return world.bondCount;
            case 6: return world.day;
            case 7: return world.tapeLength;
            case 8: return voices.length;
            case 9: return world.waitingCount;
            case 10: return world.allCoin();
            case 11: return world.allFit();
            case 12: return world.clashes();
            case 13: return world.allOwed();
            default: return finding(BEYOND);
        }
    }

    public int found(int k) {
        return within(k, BEYOND, KIND) ? findings[k] : finding(BEYOND);
    }

    // ---- what the calls have in common

    private int finding(int k) {
        findings[k]++;
        return LOW - k;
    }

    private static boolean within(int v, int least, int greatest) {
        return least <= v && v <= greatest;
    }

    private static boolean isDay(int day) {
        return within(day, 0, LAST_DAY);
    }

    private static boolean areDays(int first, int last) {
        return isDay(first) && isDay(last) && first <= last;
    }

    private static boolean isUse(int use) {
        return within(use, USE_LANCE, USE_SHARE);
    }

    private static boolean isMark(int mark) {
        return within(mark, 0, MARKS - 1);
    }

    private static boolean isSheet(int sheet) {
        return within(sheet, 0, SHEETS - 1);
    }

    private boolean isTown(int town) {
        return within(town, 0, world.townCount - 1);
    }

    private boolean isCompany(int company) {
        return within(company, 0, world.companyCount - 1);
    }

    private boolean isLance(int lance) {
        return within(lance, 0, world.lanceCount - 1);
    }

    private boolean isBond(int bond) {
        return within(bond, 0, world.bondCount - 1);
    }

    /** The next BOND, to be filled further; it counts only when bondCount is one more. */
    private Bond newBond(int kind, int company, int sum) {
        Bond made = world.bonds[world.bondCount];
        made.begin(kind, company, sum);
        return made;
    }

    // ---- the classes inside

    private static final class Town {
        int coin;
        int bread;
        int wall;
        int guns;

        void begin(int coinNow, int breadNow) {
            coin = coinNow;
            bread = breadNow;
            wall = 100;
            guns = 0;
        }

        void copy(Town from) {
            coin = from.coin;
            bread = from.bread;
            wall = from.wall;
            guns = from.guns;
        }
    }

    private static final class Company {
        int coin;
        int bread;
        int hunger;
        int town;
        int goal;
        int arrival;
        // How many LANCES are FIT and SICK is kept here, so that a day need not look at all LANCES.
        int fit;
        int sick;
        int counted;
        int musterDay;
        int musterTown;
        int shownCount;
        final int[] shownMarks = new int[MOST_SHOWN];
        final int[] winterCosts = new int[MOST_TOWNS];

        void begin(int townNow, int coinNow, int breadNow) {
            coin = coinNow;
            bread = breadNow;
            hunger = 0;
            town = townNow;
            goal = -1;
            arrival = -1;
            fit = 0;
            sick = 0;
            counted = -1;
            musterDay = -1;
            musterTown = -1;
            shownCount = 0;
            for (int i = 0; i < MOST_TOWNS; i++) {
                winterCosts[i] = 0;
            }
        }

        void copy(Company from) {
            coin = from.coin;
            bread = from.bread;
            hunger = from.hunger;
            town = from.town;
            goal = from.goal;
            arrival = from.arrival;
            fit = from.fit;
            sick = from.sick;
            counted = from.counted;
            musterDay = from.musterDay;
            musterTown = from.musterTown;
            shownCount = from.shownCount;
            System.arraycopy(from.shownMarks, 0, shownMarks, 0, MOST_SHOWN);
            System.arraycopy(from.winterCosts, 0, winterCosts, 0, MOST_TOWNS);
        }

        boolean marches() {
            return town < 0;
        }

        void join(int how) {
            fit += how == FIT ? 1 : 0;
            sick += how == SICK ? 1 : 0;
        }

        void part(int how) {
            fit -= how == FIT ? 1 : 0;
            sick -= how == SICK ? 1 : 0;
        }

        void arriveOn(int day) {
            if (marches() && arrival == day) {
                town = goal;
            }
        }

        /** The MARKS of a SHEET stand for the old ones; -1 is what stood at its place, or none. */
        void show(Sheet marks) {
            for (int i = 0; i < MOST_SHOWN; i++) {
                int old = i < shownCount ? shownMarks[i] : -1;
                int told = i < marks.length ? marks.numbers[i] : -1;
                shownMarks[i] = told >= 0 ? told : old;
            }
            shownCount = Math.min(marks.length, MOST_SHOWN);
        }

        /** Whether a MARK stands at one of the first places. */
        boolean shows(int mark, int places) {
            for (int i = 0; i < places && i < MOST_SHOWN; i++) {
                if (shownMarks[i] == mark) {
                    return true;
                }
            }
            return false;
        }
    }

    private static final class Lance {
        int company;
        int mark;
        int height;
        int how;
        int holder;

        void begin(int companyNow, int markNow, int heightNow) {
            company = companyNow;
            mark = markNow;
            height = heightNow;
            how = FIT;
            holder = -1;
        }

        void copy(Lance from) {
            company = from.company;
            mark = from.mark;
            height = from.height;
            how = from.how;
            holder = from.holder;
        }

        boolean present() {
            return how == FIT || how == SICK;
        }
    }

    private static final class Bond {
        int kind;
        int company;
        int first;
        int last;
        int sum;
        int town;
        int foe;
        // A BOND, a COMPANY, or a LANCE, as its KIND has it.
        int other;
        int owed;
        int since;
        int advanced;
        boolean renewed;

        void begin(int kindNow, int companyNow, int sumNow) {
            kind = kindNow;
            company = companyNow;
            first = -1;
            last = -1;
            sum = sumNow;
            town = -1;
            foe = -1;
            other = -1;
            owed = 0;
            since = -1;
            advanced = 0;
            renewed = false;
        }

        void copy(Bond from) {
            kind = from.kind;
            company = from.company;
            first = from.first;
            last = from.last;
            sum = from.sum;
            town = from.town;
            foe = from.foe;
            other = from.other;
            owed = from.owed;
            since = from.since;
            advanced = from.advanced;
            renewed = from.renewed;
        }

        boolean isOf(int kindAsked) {
            int here = kind;
            for (int step = 0; step < 3 && here >= 0; step++) {
                if (here == kindAsked) {
                    return true;
                }
                here = ABOVE[here];
            }
            return false;
        }

        boolean isContract() {
            return kind == CONTRACT || kind == RENEWAL;
        }

        boolean isContractOf(int companyAsked) {
            return isContract() && company == companyAsked;
        }

        boolean has(int day) {
            return first <= day && day <= last;
        }

        void oweLess(int n) {
            owed -= n;
            if (owed == 0) {
                since = -1;
            }
        }
    }

    private static final class Statute {
        int use;
        int from;
        int length;
        final byte[] text = new byte[TAPE_LENGTH];

        void begin(int useNow, int fromNow, byte[] tape, int lengthNow) {
            use = useNow;
            from = fromNow;
            length = lengthNow;
            System.arraycopy(tape, 0, text, 0, TAPE_LENGTH);
        }

        void copy(Statute other) {
            begin(other.use, other.from, other.text, other.length);
        }
    }

    /** Reads a TEXT and works it out as it goes; at the first byte that can't stand it stops. */
    private static final class Reader {
        private static final int END_OF_TEXT = -1;

        private byte[] text;
        private int length;
        private int use;
        private int first;
        private int second;
        private int third;
        private int place;
        private int fault;

        Reader() {
            text = new byte[0];
        }

        int workOut(Statute statute, int a, int b, int c) {
            first = a;
            second = b;
            third = c;
            begin(statute.text, statute.length, statute.use);
            return either(0);
        }

        /** The FAULT of a TEXT, or -1. */
        int faultOf(byte[] tape, int tapeLength, int useNow) {
            begin(tape, tapeLength, useNow);
            either(0);
            if (fault < 0 && place < length) {
                fault = place;
            }
            return fault;
        }

        private void begin(byte[] textNow, int lengthNow, int useNow) {
            text = textNow;
            length = Math.min(lengthNow, textNow.length);
            use = useNow;
            place = 0;
            fault = -1;
        }

        private int sign() {
            return place < length ? text[place] & 255 : END_OF_TEXT;
        }

        private boolean goesOnWith(int a, int b) {
            int sign = sign();
            return fault < 0 && (sign == a || sign == b);
        }

        private int either(int open) {
            int value = both(open);
            for (int turn = 0; turn < TAPE_LENGTH && goesOnWith('|', '|'); turn++) {
                place++;
                int next = both(open);
                value = value != 0 || next != 0 ? 1 : 0;
            }
            return value;
        }

        private int both(int open) {
            int value = compared(open);
            for (int turn = 0; turn < TAPE_LENGTH && goesOnWith('&', '&'); turn++) {
                place++;
                int next = compared(open);
                value = value != 0 && next != 0 ? 1 : 0;
            }
            return value;
        }

        private int compared(int open) {
            int left = added(open);
            int sign = sign();
            if (fault >= 0 || sign != '<' && sign != '=' && sign != '>') {
                return left;
            }
            place++;
            int right = added(open);
            boolean holds = sign == '<' ? left < right : sign == '=' ? left == right : left > right;
            return holds ? 1 : 0;
        }

        private int added(int open) {
            int value = multiplied(open);
            for (int turn = 0; turn < TAPE_LENGTH && goesOnWith('+', '-'); turn++) {
                boolean plus = sign() == '+';
                place++;
                int next = multiplied(open);
                value = plus ? value + next : value - next;
            }
            return value;
        }

        private int multiplied(int open) {
            int value = single(open);
            for (int turn = 0; turn < TAPE_LENGTH && goesOnWith('*', '/'); turn++) {
                boolean times = sign() == '*';
                place++;
                int next = single(open);
                value = times ? value * next : next == 0 ? 0 : value / next;
            }
            return value;
        }

        private int single(int open) {
            int sign = sign();
            if (sign >= '0' && sign <= '9') {
                return number();
            }
            if (sign == '!' || sign == '(') {
                return opened(sign, open);
            }
            int name = nameOf(sign);
            if (name < 0) {
                fault = place;
                return 0;
            }
            place++;
            return name == 0 ? first : name == 1 ? second : third;
        }

        private int opened(int sign, int open) {
            if (open >= MOST_OPEN) {
                fault = place;
                return 0;
            }
            place++;
            if (sign == '!') {
                return single(open + 1) == 0 ? 1 : 0;
            }
            int value = either(open + 1);
            if (fault < 0 && sign() == ')') {
                place++;
            } else if (fault < 0) {
                fault = place;
            }
            return value;
        }

        private int number() {
            int value = 0;
            for (int digit = 0; digit < MOST_DIGITS && sign() >= '0' && sign() <= '9'; digit++) {
                value = value * 10 + sign() - '0';
                place++;
            }
            return value;
        }

        /** Which of its USE's NAMES a sign is, or -1. */
        private int nameOf(int sign) {
            switch (use) {
                case USE_LANCE: return sign == 'h' ? 0 : sign == 'm' ? 1 : sign == 's' ? 2 : -1;
                case USE_PAY: return sign == 'n' ? 0 : sign == 'p' ? 1 : -1;
                case USE_LEAVE: return sign == 'l' ? 0 : sign == 'o' ? 1 : -1;
                case USE_SHARE: return sign == 'c' ? 0 : -1;
                default: return -1;
            }
        }
    }

    /** All that an IMAGE keeps, and how days change it. */
    private static final class World {
        int day;
        final Town[] towns = new Town[MOST_TOWNS];
        int townCount;
        int roadCount;
        // The fewest days between any two TOWNS; roads only come, so each new one can only shorten these.
        final int[] ways = new int[MOST_TOWNS * MOST_TOWNS];
        final Company[] companies = new Company[MOST_COMPANIES];
        int companyCount;
        final Lance[] lances = new Lance[MOST_LANCES];
        int lanceCount;
        final Statute[] statutes = new Statute[MOST_STATUTES];
        int statuteCount;
        final Bond[] bonds = new Bond[MOST_BONDS];
        int bondCount;
        final byte[] tape = new byte[TAPE_LENGTH];
        int tapeLength;
        final int[] waiting = new int[MOST_WAITING];
        int waitingCount;
        final Reader reader = new Reader();

        World() {
            for (int i = 0; i < MOST_TOWNS; i++) {
                towns[i] = new Town();
            }
            for (int i = 0; i < MOST_COMPANIES; i++) {
                companies[i] = new Company();
            }
            for (int i = 0; i < MOST_LANCES; i++) {
                lances[i] = new Lance();
            }
            for (int i = 0; i < MOST_STATUTES; i++) {
                statutes[i] = new Statute();
            }
            for (int i = 0; i < MOST_BONDS; i++) {
                bonds[i] = new Bond();
            }
            for (int i = 0; i < MOST_TOWNS * MOST_TOWNS; i++) {
                ways[i] = i / MOST_TOWNS == i % MOST_TOWNS ? 0 : NO_WAY;
            }
        }

        void copy(World from) {
            day = from.day;
            townCount = from.townCount;
            roadCount = from.roadCount;
            companyCount = from.companyCount;
            lanceCount = from.lanceCount;
            statuteCount = from.statuteCount;
            bondCount = from.bondCount;
            tapeLength = from.tapeLength;
            waitingCount = from.waitingCount;
            System.arraycopy(from.ways, 0, ways, 0, MOST_TOWNS * MOST_TOWNS);
            System.arraycopy(from.tape, 0, tape, 0, TAPE_LENGTH);
            System.arraycopy(from.waiting, 0, waiting, 0, MOST_WAITING);
            for (int i = 0; i < townCount; i++) {
                towns[i].copy(from.towns[i]);
            }
            for (int i = 0; i < companyCount; i++) {
                companies[i].copy(from.companies[i]);
            }
            for (int i = 0; i < lanceCount; i++) {
                lances[i].copy(from.lances[i]);
            }
            for (int i = 0; i < statuteCount; i++) {
                statutes[i].copy(from.statutes[i]);
            }
            for (int i = 0; i < bondCount; i++) {
                bonds[i].copy(from.bonds[i]);
            }
        }

        int way(int a, int b) {
            return ways[a * MOST_TOWNS + b];
        }

        void join(int a, int b, int days) {
            for (int i = 0; i < townCount; i++) {
                for (int j = 0; j < townCount; j++) {
                    int there = way(i, a) + days + way(b, j);
                    int back = way(i, b) + days + way(a, j);
                    int at = i * MOST_TOWNS + j;
                    ways[at] = Math.min(ways[at], Math.min(there, back));
                }
            }
        }

        int lyingIn(int town) {
            int bits = 0;
            for (int c = 0; c < companyCount; c++) {
                if (companies[c].town == town) {
                    bits |= 1 << c;
                }
            }
            return bits;
        }

        boolean together(int a, int b) {
            return !companies[a].marches() && companies[a].town == companies[b].town;
        }

        void become(Lance lance, int how) {
            Company company = companies[lance.company];
            company.part(lance.how);
            lance.how = how;
            company.join(how);
        }

        void coinToCompany(int town, int company, int sum) {
            towns[town].coin -= sum;
            companies[company].coin += sum;
        }

        // ---- days

        void endDay() {
            day++;
            for (int c = 0; c < companyCount; c++) {
                companies[c].arriveOn(day);
            }
            for (int c = 0; c < companyCount; c++) {
                eat(companies[c]);
                ail(c);
            }
            for (int i = 0; i < bondCount && day % MONTH == 0; i++) {
                settle(bonds[i]);
            }
        }

        private void eat(Company company) {
            int need = company.fit + company.sick;
            int own = Math.min(need, company.bread);
            company.bread -= own;
            need -= own;
            if (!company.marches()) {
                Town town = towns[company.town];
                int given = Math.min(need, town.bread);
                town.bread -= given;
                need -= given;
            }
            company.hunger = need > 0 ? company.hunger + 1 : 0;
        }

        private void ail(int company) {
            int hunger = companies[company].hunger;
            if (hunger >= 6) {
                turnLeast(company, SICK, DEAD);
            } else if (hunger >= 3) {
                turnLeast(company, FIT, SICK);
            } else if (hunger == 0 && companies[company].sick > 0) {
                turnLeast(company, SICK, FIT);
            }
        }

        private void turnLeast(int company, int how, int then) {
            for (int i = 0; i < lanceCount; i++) {
                if (lances[i].company == company && lances[i].how == how) {
                    become(lances[i], then);
                    return;
                }
            }
        }

        /** What a MONTH does to a CONTRACT in whose days the DAY is. */
        private void settle(Bond contract) {
            if (!contract.isContract() || !contract.has(day)) {
                return;
            }
            contract.owed += due(Math.max(0, companies[contract.company].counted), contract.sum);
            int off = Math.min(contract.owed, contract.advanced);
            contract.advanced -= off;
            contract.owed -= off;
            int paid = Math.min(contract.owed, towns[contract.town].coin);
            coinToCompany(contract.town, contract.company, paid);
            contract.owed -= paid;
            if (contract.owed == 0) {
                contract.since = -1;
            } else if (contract.since < 0) {
                contract.since = day;
            }
        }

        private int due(int counted, int pay) {
            int number = inForce(USE_PAY, day);
            int said = number < 0 ? counted * pay : reader.workOut(statutes[number], counted, pay, 0);
            return Math.max(0, Math.min(MOST_DUE, said));
        }

        // ---- statutes

        /** The STATUTE of a USE in force on a day, or -1. */
        int inForce(int use, int onDay) {
            for (int i = statuteCount - 1; i >= 0; i--) {
                if (statutes[i].use == use && statutes[i].from <= onDay) {
                    return i;
                }
            }
            return -1;
        }

        // ---- bonds

        boolean bondsFull() {
            return bondCount >= MOST_BONDS;
        }

        /** The TOWN that a COMPANY SERVES on a day, or -1. */
        int served(int company, int onDay) {
            for (int i = 0; i < bondCount; i++) {
                if (bonds[i].isContractOf(company) && bonds[i].has(onDay)) {
                    return bonds[i].town;
                }
            }
            return -1;
        }

        boolean mayGo(int company) {
            if (served(company, day) < 0) {
                return true;
            }
            for (int i = 0; i < bondCount; i++) {
                if (bonds[i].isContractOf(company) && bonds[i].owed > 0 && letsGo(bonds[i])) {
                    return true;
                }
            }
            return false;
        }

        private boolean letsGo(Bond contract) {
            int late = day - contract.since;
            int number = inForce(USE_LEAVE, day);
            return number < 0 ? late > 60 : reader.workOut(statutes[number], late, contract.owed, 0) != 0;
        }

        int clashes() {
            int clashes = 0;
            for (int i = 0; i < bondCount; i++) {
                for (int j = i + 1; j < bondCount; j++) {
                    clashes += clashDay(bonds[i], bonds[j]) >= 0 ? 1 : 0;
                }
            }
            return clashes;
        }

        /** The first day on which two BONDS CLASH, or -1. */
        int clashDay(Bond one, Bond two) {
            int day1 = Math.max(one.first, two.first);
            if (day1 < 0 || day1 > Math.min(one.last, two.last)) {
                return -1;
            }
            if (one.isContract() && two.isContract()) {
                return one.company == two.company && one.town != two.town ? day1 : -1;
            }
            if (one.isContract()) {
                return clashOf(one, two);
            }
            return two.isContract() ? clashOf(two, one) : -1;
        }

        private int clashOf(Bond contract, Bond bond) {
            if (contract.foe < 0) {
                return -1;
            }
            if (bond.kind == TRUCE) {
                return truceDay(contract, bond);
            }
            boolean unsafe = bond.kind == SAFE && bond.company == contract.company && bond.town == contract.foe;
            return unsafe ? Math.max(contract.first, bond.first) : -1;
        }

        /** The first day of a CONTRACT, a TRUCE, and a CONTRACT for the FOE of who is let be; or -1. */
        private int truceDay(Bond contract, Bond truce) {
            // A TRUCE binds both: it is that of either COMPANY with the other one.
            boolean made = truce.company == contract.company;
            if (!made && truce.other != contract.company) {
                return -1;
            }
            int with = made ? truce.other : truce.company;
            int from = Math.max(contract.first, truce.first);
            int to = Math.min(contract.last, truce.last);
            int least = -1;
            for (int i = 0; i < bondCount; i++) {
                Bond third = bonds[i];
                int begins = Math.max(from, third.first);
                boolean meets = third.isContractOf(with) && third.town == contract.foe
                    && begins <= Math.min(to, third.last);
                if (meets && (least < 0 || begins < least)) {
                    least = begins;
                }
            }
            return least;
        }

        /** The first day from the DAY on without a CONTRACT of a COMPANY; it may be beyond the last DAY. */
        int firstFree(int company, boolean worst) {
            int free = day;
            // Each turn leaves at least one CONTRACT behind for good.
            for (int turn = 0; turn < MOST_BONDS; turn++) {
                int end = boundUntil(company, free, worst);
                if (end < 0) {
                    return free;
                }
                free = end + 1;
            }
            return free;
        }

        private int boundUntil(int company, int onDay, boolean worst) {
            int until = -1;
            for (int i = 0; i < bondCount; i++) {
                Bond bond = bonds[i];
                boolean longer = worst && !bond.renewed && bond.last >= day;
                int end = longer ? bond.last + 30 : bond.last;
                if (bond.isContractOf(company) && bond.first <= onDay && onDay <= end) {
                    until = Math.max(until, end);
                }
            }
            return until;
        }

        // ---- musters

        int countShown(int company) {
            Company it = companies[company];
            int counted = 0;
            for (int i = 0; i < it.shownCount; i++) {
                int mark = it.shownMarks[i];
                if (mark >= 0 && !it.shows(mark, i) && counts(leastOf(company, mark))) {
                    counted++;
                }
            }
            return counted;
        }

        /** The least LANCE of a COMPANY, FIT or SICK, of a MARK; or -1. */
        private int leastOf(int company, int mark) {
            for (int i = 0; i < lanceCount; i++) {
                Lance lance = lances[i];
                if (lance.company == company && lance.mark == mark && lance.present()) {
                    return i;
                }
            }
            return -1;
        }

        private boolean counts(int number) {
            if (number < 0) {
                return false;
            }
            Lance lance = lances[number];
            int statute = inForce(USE_LANCE, day);
            if (statute < 0) {
                return lance.how == FIT;
            }
            return reader.workOut(statutes[statute], lance.height, lance.mark, lance.how) != 0;
        }

        /** In how many latest MUSTERS a MARK stands. */
        int showing(int mark) {
            int showing = 0;
            for (int c = 0; c < companyCount; c++) {
                showing += companies[c].shows(mark, companies[c].shownCount) ? 1 : 0;
            }
            return showing;
        }

        // ---- rows

        boolean townRowAboveZero() {
            for (int t = 0; t < townCount; t++) {
                if (waiting[companyCount + t] > 0) {
                    return true;
                }
            }
            return false;
        }

        boolean rowsAboveCost() {
            for (int c = 0; c < companyCount; c++) {
                for (int t = 0; t < townCount; t++) {
                    long both = (long) waiting[c] + waiting[companyCount + t];
                    if (both > companies[c].winterCosts[t]) {
                        return true;
                    }
                }
            }
            return false;
        }

        long rowsTogether() {
            long sum = 0;
            for (int i = 0; i < companyCount + townCount; i++) {
                sum += waiting[i];
            }
            return sum;
        }

        // ---- sums over all

        int allCoin() {
            int sum = 0;
            for (int t = 0; t < townCount; t++) {
                sum += towns[t].coin;
            }
            for (int c = 0; c < companyCount; c++) {
                sum += companies[c].coin;
            }
            return sum;
        }

        int allFit() {
            int sum = 0;
            for (int c = 0; c < companyCount; c++) {
                sum += companies[c].fit;
            }
            return sum;
        }

        int allOwed() {
            int sum = 0;
            for (int i = 0; i < bondCount; i++) {
                sum += bonds[i].owed;
            }
            return sum;
        }
    }

    private static final class Sheet {
        int bits;
        int length;
        final int[] numbers = new int[MOST_IN_SHEET];

        void begin(int bitsNow, int lengthNow) {
            bits = bitsNow;
            length = lengthNow;
            for (int i = 0; i < MOST_IN_SHEET; i++) {
                numbers[i] = 0;
            }
        }

        boolean missing() {
            return bits == 0;
        }

        int cut(int v) {
            return bits == 8 ? (byte) v : bits == 16 ? (short) v : v;
        }

        boolean stand(int from, int n) {
            // No sum of both: they may be as great as an int can be.
            return n >= 0 && from >= 0 && n <= length && from <= length - n;
        }

        boolean allWithin(int least, int greatest) {
            for (int i = 0; i < length; i++) {
                if (!within(numbers[i], least, greatest)) {
                    return false;
                }
            }
            return true;
        }

        /** Whether it has three numbers, 0 .. 9999, for each of at least one and at most so many. */
        boolean inThrees(int most) {
            return length > 0 && length % 3 == 0 && length / 3 <= most && allWithin(0, 9999);
        }

        int total() {
            int total = 0;
            for (int i = 0; i < length; i++) {
                total += numbers[i];
            }
            return total;
        }
    }

    /** ASKING, PARTS, WINTERING and HIRING: what is cheapest, or due by shares. */
    private static final class Plans {
        // For each set of TOWNS that are taken: what the COMPANIES that have none yet cost at least.
        private final int[] winterBest = new int[1 << MOST_TOWNS];
        // For each SEASON and who was hired ahead of it (0: none): what it and all behind it cost at least.
        private final int[] hireBest = new int[(MOST_SEASONS + 1) * (MOST_COMPANIES + 1)];

        /** Bits, the first that asks being the highest, so that the lesser way comes first of equals. */
        int cheapestWay(int[] numbers, int askers, int coin) {
            int best = 0;
            int least = costOfWay(numbers, askers, coin, 0);
            for (int way = 1; way < 1 << askers; way++) {
                int cost = costOfWay(numbers, askers, coin, way);
                if (cost >= 0 && cost < least) {
                    least = cost;
                    best = way;
                }
            }
            return best;
        }

        /** What is paid and lost, or -1: the TOWN hasn't the COIN. */
        int costOfWay(int[] numbers, int askers, int coin, int way) {
            int more = 0;
            int paid = 0;
            int lost = 0;
            for (int i = 0; i < askers; i++) {
                if ((way >> (askers - 1 - i) & 1) == 0) {
                    lost += numbers[3 * i + 1];
                } else {
                    paid += numbers[3 * i] + more;
                    more += numbers[3 * i + 2];
                }
            }
            return paid <= coin ? paid + lost : -1;
        }

        int partOf(int sum, Sheet by, int total, int i) {
            if (total <= 0) {
                return 0;
            }
            int left = sum;
            int ahead = 0;
            int own = sum * by.numbers[i] % total;
            for (int j = 0; j < by.length; j++) {
                int remainder = sum * by.numbers[j] % total;
                left -= sum * by.numbers[j] / total;
                if (remainder > own || remainder == own && j < i) {
                    ahead++;
                }
            }
            return sum * by.numbers[i] / total + (ahead < left ? 1 : 0);
        }

        /** Fills winterBest; there are at least as many TOWNS as COMPANIES. */
        int winterCost(World world) {
            for (int taken = (1 << world.townCount) - 1; taken >= 0; taken--) {
                winterBest[taken] = 0;
                if (Integer.bitCount(taken) < world.companyCount) {
                    winterBest[taken] = winterNext(world, taken, winterChoice(world, taken));
                }
            }
            return winterBest[0];
        }

        /** Where a COMPANY winters, by what winterCost() filled. */
        int winterTown(World world, int company) {
            int taken = 0;
            int town = winterChoice(world, taken);
            for (int c = 0; c < company; c++) {
                taken |= 1 << town;
                town = winterChoice(world, taken);
            }
            return town;
        }

        /** The least of the best TOWNS for the next COMPANY; one is left, as COMPANIES are no more than TOWNS. */
        private int winterChoice(World world, int taken) {
            int choice = 0;
            int least = NO_COST;
            for (int town = 0; town < world.townCount; town++) {
                if ((taken >> town & 1) == 0) {
                    int cost = winterNext(world, taken, town);
                    choice = cost < least ? town : choice;
                    least = Math.min(least, cost);
                }
            }
            return choice;
        }

        private int winterNext(World world, int taken, int town) {
            int company = Integer.bitCount(taken);
            return world.companies[company].winterCosts[town] + winterBest[taken | 1 << town];
        }

        /** Fills hireBest. */
        int hireCost(World world, int[] numbers, int seasons) {
            for (int last = -1; last < world.companyCount; last++) {
                hireBest[hirePlace(seasons, last)] = 0;
            }
            for (int season = seasons - 1; season >= 0; season--) {
                for (int last = -1; last < world.companyCount; last++) {
                    int choice = hireChoice(world, numbers, season, last);
                    hireBest[hirePlace(season, last)] = hireNext(world, numbers, season, last, choice);
                }
            }
            return hireBest[hirePlace(0, -1)];
        }

        /** Who is hired in a SEASON, by what hireCost() filled; -1: none. */
        int hiredIn(World world, int[] numbers, int seasons, int asked) {
            int last = -1;
            for (int season = 0; season <= asked && season < seasons; season++) {
                last = hireChoice(world, numbers, season, last);
            }
            return last;
        }

        private static int hirePlace(int season, int last) {
            return season * (MOST_COMPANIES + 1) + last + 1;
        }

        private int hireChoice(World world, int[] numbers, int season, int last) {
            int choice = -1;
            int least = hireNext(world, numbers, season, last, -1);
            for (int company = 0; company < world.companyCount; company++) {
                int cost = hireNext(world, numbers, season, last, company);
                if (cost < least) {
                    least = cost;
                    choice = company;
                }
            }
            return choice;
        }

        private int hireNext(World world, int[] numbers, int season, int last, int hired) {
            int fit = hired < 0 ? 0 : world.companies[hired].fit;
            int cost = fit * numbers[3 * season + 2];
            if (hired >= 0 && hired != last) {
                cost += NEWLY_HIRED;
            }
            if (fit < numbers[3 * season]) {
                cost += numbers[3 * season + 1];
            }
            return cost + hireBest[hirePlace(season + 1, hired)];
        }
    }

    /** VOICES of one BOND at a time, and THE TRACE of the latest. */
    private static final class Voices {
        private static final int DEEPEST = 40;

        final int[] begun = new int[MOST_TRACED];
        int length;
        private int kind;
        private int number;
        private int sum;

        int speak(int kindNow, int numberNow, int sumNow, int act, int x) {
            kind = kindNow;
            number = numberNow;
            sum = sumNow;
            length = 0;
            return own(act, x, 0);
        }

        private int own(int act, int x, int depth) {
            return from(kind, act, x, depth);
        }

        private int above(int kindOfBody, int act, int x, int depth) {
            return from(ABOVE[kindOfBody], act, x, depth);
        }

        /** The BODY of a KIND, or of the next one above that has one. */
        private int from(int kindNow, int act, int x, int depth) {
            if (depth > DEEPEST) {
                return 0;
            }
            int has = kindNow;
            for (int step = 0; step < 3 && has > BOND && BODIES[has * ACTS + act] == 0; step++) {
                has = ABOVE[has];
            }
            int body = has < BOND ? 0 : BODIES[has * ACTS + act];
            if (length < MOST_TRACED) {
                begun[length] = body;
                length++;
            }
            return work(body, x, depth + 1);
        }

        private int work(int body, int x, int depth) {
            switch (body) {
                case 10: return x + number;
                case 11: return own(BIND, x, depth) + sum;
                case 12: return x * 2 - number;
                case 13: return own(PAY, x, depth) ^ own(END, x, depth);
                case 20: return above(CONTRACT, PAY, x, depth) * 2;
                case 21: return above(CONTRACT, END, x - 1, depth);
                case 30: return above(RENEWAL, END, x, depth) + own(BIND, x, depth);
                case 31: return above(RENEWAL, BIND, x, depth) * 3;
                case 40: return x - above(ADVANCE, PAY, x, depth);
                case 50: return above(TRUCE, TELL, x, depth) - 1;
                case 51: return above(TRUCE, BIND, x + sum, depth);
                case 60: return own(PAY, x, depth) - above(RANSOM, END, x, depth);
                case 70: return own(END, x, depth) + above(SAFE, TELL, x + 1, depth);
                default: return 0;
            }
        }
    }
}
