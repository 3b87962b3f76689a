import java.util.ArrayDeque;
import java.util.ArrayList;
import java.util.Arrays;
import java.util.Deque;
import java.util.List;

/**
 * The document once more, in the slowest and plainest way, for RandomRunsTest: no counts kept, days looked at
 * one by one, all ways tried. Where FreeLances is clever this is not, so that a slip in one shows in the other.
 */
public final class Model {
    private static final int LOW = -1000000;
    private static final int BEYOND = 1;
    private static final int NONE = 2;
    private static final int STATE = 3;
    private static final int FULL = 4;
    private static final int KIND = 5;

    // Places in the rows of a State.
    private static final int COIN = 0;
    private static final int BREAD = 1;
    private static final int WALL = 2;
    private static final int GUNS = 3;
    private static final int HUNGER = 2;
    private static final int LIES = 3;
    private static final int GOAL = 4;
    private static final int COMES = 5;
    private static final int HOW = 3;
    private static final int HOLDER = 4;
    private static final int KINDOF = 0;
    private static final int OF = 1;
    private static final int FIRST = 2;
    private static final int LAST = 3;
    private static final int TOWN = 4;
    private static final int FOE = 5;
    private static final int OTHER = 6;
    private static final int OWED = 7;
    private static final int SINCE = 8;
    private static final int LEFT = 9;
    private static final int SUM = 10;
    private static final int RENEWED = 11;

    static final class State {
        int day = 0;
        List<int[]> towns = new ArrayList<>();
        List<int[]> roads = new ArrayList<>();
        List<int[]> companies = new ArrayList<>();
        List<int[]> musters = new ArrayList<>();
        List<int[]> winters = new ArrayList<>();
        List<int[]> lances = new ArrayList<>();
        List<int[]> statutes = new ArrayList<>();
        List<int[]> bonds = new ArrayList<>();
        List<Integer> tape = new ArrayList<>();
        List<Integer> waiting = new ArrayList<>();

        State copy() {
            State to = new State();
            to.day = day;
            to.towns = rows(towns);
            to.roads = rows(roads);
            to.companies = rows(companies);
            to.musters = rows(musters);
            to.winters = rows(winters);
            to.lances = rows(lances);
            to.statutes = rows(statutes);
            to.bonds = rows(bonds);
            to.tape = new ArrayList<>(tape);
            to.waiting = new ArrayList<>(waiting);
            return to;
        }

        private static List<int[]> rows(List<int[]> from) {
            List<int[]> to = new ArrayList<>();
            for (int[] row : from) {
                to.add(row == null ? null : row.clone());
            }
            return to;
        }
    }

    private State s = new State();
    private State kept = null;
    private int images = 0;
    private final int[] found = new int[6];
    private final Object[] sheets = new Object[4];
    private List<Integer> trace = new ArrayList<>();

    private int no(int k) {
        found[k]++;
        return LOW - k;
    }

    private static boolean in(int v, int a, int b) {
        return v >= a && v <= b;
    }

    private static boolean at(List<?> list, int i) {
        return i >= 0 && i < list.size();
    }

    // ---- towns, companies, lances

    public int town(int coin, int bread) {
        if (!in(coin, 0, 99999) || !in(bread, 0, 99999)) return no(BEYOND);
        if (s.towns.size() == 8) return no(FULL);
        s.towns.add(new int[] {coin, bread, 100, 0});
        return s.towns.size() - 1;
    }

    public int road(int a, int b, int days) {
        if (!at(s.towns, a) || !at(s.towns, b) || a == b || !in(days, 1, 9)) return no(BEYOND);
        if (s.roads.size() == 16) return no(FULL);
        s.roads.add(new int[] {a, b, days});
        return s.roads.size();
    }

    /** FAR, or -1: all roads tried again and again until nothing gets nearer. */
    private int way(int a, int b) {
        int[] best = new int[s.towns.size()];
        Arrays.fill(best, -1);
        best[a] = 0;
        boolean changed = true;
        while (changed) {
            changed = false;
            for (int[] road : s.roads) {
                for (int turn = 0; turn < 2; turn++) {
                    int from = road[turn];
                    int to = road[1 - turn];
                    if (best[from] >= 0 && (best[to] < 0 || best[to] > best[from] + road[2])) {
                        best[to] = best[from] + road[2];
                        changed = true;
                    }
                }
            }
        }
        return best[b];
    }

    public int far(int a, int b) {
        if (!at(s.towns, a) || !at(s.towns, b)) return no(BEYOND);
        int way = way(a, b);
        return way < 0 ? no(NONE) : way;
    }

    public int townIs(int town, int what) {
        if (!at(s.towns, town) || !in(what, 0, 4)) return no(BEYOND);
        if (what < 4) return s.towns.get(town)[what];
        int bits = 0;
        for (int c = 0; c < s.companies.size(); c++) {
            if (s.companies.get(c)[LIES] == town) bits += 1 << c;
        }
        return bits;
    }

    public int wall(int town, int wall, int guns) {
        if (!at(s.towns, town) || !in(wall, 0, 999) || !in(guns, 0, 99)) return no(BEYOND);
        s.towns.get(town)[WALL] = wall;
        s.towns.get(town)[GUNS] = guns;
        return 1;
    }

    public int harvest(int town, int n) {
        if (!at(s.towns, town) || !in(n, 1, 9999)) return no(BEYOND);
        if (s.towns.get(town)[BREAD] + n > 999999) return no(FULL);
        return s.towns.get(town)[BREAD] += n;
    }

    public int company(int town, int coin, int bread) {
        if (!at(s.towns, town) || !in(coin, 0, 9999) || !in(bread, 0, 9999)) return no(BEYOND);
        if (s.companies.size() == 5) return no(FULL);
        s.companies.add(new int[] {coin, bread, 0, town, -1, -1});
        s.musters.add(null);
        s.winters.add(new int[8]);
        return s.companies.size() - 1;
    }

    public int march(int company, int town) {
        if (!at(s.companies, company) || !at(s.towns, town)) return no(BEYOND);
        int[] c = s.companies.get(company);
        if (c[LIES] == -1 || c[LIES] == town) return no(STATE);
        int way = way(c[LIES], town);
        if (way < 0) return no(NONE);
        c[LIES] = -1;
        c[GOAL] = town;
        c[COMES] = s.day + way;
        return c[COMES];
    }

    public int buy(int company, int n) {
        if (!at(s.companies, company) || !in(n, 1, 9999)) return no(BEYOND);
        int[] c = s.companies.get(company);
        if (c[LIES] == -1) return no(STATE);
        int[] t = s.towns.get(c[LIES]);
        if (c[COIN] < n || t[BREAD] < n) return no(NONE);
        c[COIN] -= n;
        t[COIN] += n;
        t[BREAD] -= n;
        return c[BREAD] += n;
    }

    private static int how(State s, int company, int how) {
        int n = 0;
        for (int[] lance : s.lances) {
            if (lance[0] == company && lance[HOW] == how) n++;
        }
        return n;
    }

    public int about(int company, int what) {
        if (!at(s.companies, company) || !in(what, 0, 8)) return no(BEYOND);
        int[] c = s.companies.get(company);
        int[] m = s.musters.get(company);
        switch (what) {
            case 0: return c[LIES];
            case 1: return c[COIN];
            case 2: return c[BREAD];
            case 3: return c[HUNGER];
            case 4: return how(s, company, 0);
            case 5: return how(s, company, 1);
            case 6: return servedOn(company, s.day);
            case 7: return m == null ? -1 : m[2];
            default: return m == null ? -1 : m[0];
        }
    }

    public int lance(int company, int mark, int height) {
        if (!at(s.companies, company) || !in(mark, 0, 99) || !in(height, 100, 180)) return no(BEYOND);
        if (s.lances.size() == 40) return no(FULL);
        s.lances.add(new int[] {company, mark, height, 0, -1});
        return s.lances.size() - 1;
    }

    public int lanceIs(int lance, int what) {
        if (!at(s.lances, lance) || !in(what, 0, 4)) return no(BEYOND);
        return s.lances.get(lance)[what];
    }

    public int over(int lance, int company) {
        if (!at(s.lances, lance) || !at(s.companies, company)) return no(BEYOND);
        int[] l = s.lances.get(lance);
        int was = l[0];
        if (was == company) return no(BEYOND);
        if (l[HOW] > 1) return no(STATE);
        if (servedOn(was, s.day) != -1) {
            boolean may = false;
            for (int[] b : s.bonds) {
                if (!contract(b) || b[OF] != was || b[OWED] == 0) continue;
                int late = s.day - b[SINCE];
                Integer said = by(s, 2, late, b[OWED], 0);
                may |= said == null ? late > 60 : said != 0;
            }
            if (!may) return no(STATE);
        }
        int lies = s.companies.get(was)[LIES];
        if (lies == -1 || lies != s.companies.get(company)[LIES]) return no(STATE);
        l[0] = company;
        return was;
    }

    public int take(int town, int lance) {
        if (!at(s.towns, town) || !at(s.lances, lance)) return no(BEYOND);
        int[] l = s.lances.get(lance);
        if (l[HOW] > 1 || s.companies.get(l[0])[LIES] == town) return no(STATE);
        l[HOW] = 2;
        l[HOLDER] = town;
        return 1;
    }

    // ---- statutes

    public int feed(long word, int n) {
        if (!in(n, 1, 8)) return no(BEYOND);
        if (s.tape.size() + n > 50) return no(FULL);
        for (int i = 0; i < n; i++) {
            s.tape.add((int) (word >> 8 * i & 255));
        }
        return s.tape.size();
    }

    private static final String[] NAMES = {"hms", "np", "lo", "c"};

    /** FAULT, or -1: a machine with a pile of what is open, a byte at a time. */
    private static int fault(List<Integer> tape, int use) {
        Deque<Character> open = new ArrayDeque<>();
        Deque<Boolean> compared = new ArrayDeque<>();
        compared.push(false);
        boolean operand = false;
        int digits = 0;
        for (int i = 0; i < tape.size(); i++) {
            char b = (char) (int) tape.get(i);
            if (operand) {
                if (digits > 0 && digits < 4 && b >= '0' && b <= '9') {
                    digits++;
                    continue;
                }
                digits = 0;
                while (!open.isEmpty() && open.peek() == '!') open.pop();
                if (b == ')') {
                    if (open.isEmpty()) return i;
                    open.pop();
                    compared.pop();
                } else if (b == '<' || b == '=' || b == '>') {
                    if (compared.pop()) return i;
                    compared.push(true);
                    operand = false;
                } else if (b == '|' || b == '&') {
                    compared.pop();
                    compared.push(false);
                    operand = false;
                } else if ("+-*/".indexOf(b) >= 0) {
                    operand = false;
                } else {
                    return i;
                }
            } else if (b >= '0' && b <= '9') {
                digits = 1;
                operand = true;
            } else if (NAMES[use].indexOf(b) >= 0) {
                operand = true;
            } else if ((b == '!' || b == '(') && open.size() < 5) {
                open.push(b);
                if (b == '(') compared.push(false);
            } else {
                return i;
            }
        }
        return operand && !open.contains('(') ? -1 : tape.size();
    }

    /** A TEXT without a FAULT by two piles, signs and numbers. */
    private static int value(int[] row, int a, int b, int c) {
        Deque<Integer> values = new ArrayDeque<>();
        Deque<Character> signs = new ArrayDeque<>();
        int i = 2;
        while (i < row.length) {
            char sign = (char) row[i];
            int name = NAMES[row[0]].indexOf(sign);
            if (sign >= '0' && sign <= '9') {
                int v = 0;
                while (i < row.length && row[i] >= '0' && row[i] <= '9') v = v * 10 + row[i++] - '0';
                values.push(v);
                continue;
            }
            if (name >= 0) {
                values.push(name == 0 ? a : name == 1 ? b : c);
            } else if (sign == '(' || sign == '!') {
                signs.push(sign);
            } else if (sign == ')') {
                while (signs.peek() != '(') work(values, signs.pop());
                signs.pop();
            } else {
                while (!signs.isEmpty() && rank(signs.peek()) >= rank(sign)) work(values, signs.pop());
                signs.push(sign);
            }
            i++;
        }
        while (!signs.isEmpty()) work(values, signs.pop());
        return values.pop();
    }

    private static int rank(char sign) {
        switch (sign) {
            case '(': return 0;
            case '|': return 1;
            case '&': return 2;
            case '<': case '=': case '>': return 3;
            case '+': case '-': return 4;
            case '*': case '/': return 5;
            default: return 6;
        }
    }

    private static void work(Deque<Integer> values, char sign) {
        int y = values.pop();
        if (sign == '!') {
            values.push(y == 0 ? 1 : 0);
            return;
        }
        int x = values.pop();
        switch (sign) {
            case '|': values.push(x != 0 || y != 0 ? 1 : 0); break;
            case '&': values.push(x != 0 && y != 0 ? 1 : 0); break;
            case '<': values.push(x < y ? 1 : 0); break;
            case '=': values.push(x == y ? 1 : 0); break;
            case '>': values.push(x > y ? 1 : 0); break;
            case '+': values.push(x + y); break;
            case '-': values.push(x - y); break;
            case '*': values.push(x * y); break;
            default: values.push(y == 0 ? 0 : (int) ((long) x / y)); break;
        }
    }

    private static int forceOn(State s, int use, int day) {
        int number = -1;
        for (int i = 0; i < s.statutes.size(); i++) {
            if (s.statutes.get(i)[0] == use && s.statutes.get(i)[1] <= day) number = i;
        }
        return number;
    }

    /** What the STATUTE of a USE comes to on the DAY, or null. */
    private static Integer by(State s, int use, int a, int b, int c) {
        int number = forceOn(s, use, s.day);
        return number < 0 ? null : (Integer) value(s.statutes.get(number), a, b, c);
    }

    public int statute(int use, int from) {
        if (!in(use, 0, 3) || !in(from, 0, 3000)) return no(BEYOND);
        if (s.statutes.size() == 12) return no(FULL);
        int fault = fault(s.tape, use);
        int[] row = new int[2 + s.tape.size()];
        row[0] = use;
        row[1] = from;
        for (int i = 0; i < s.tape.size(); i++) row[2 + i] = s.tape.get(i);
        s.tape.clear();
        if (fault >= 0) return -10 - fault;
        s.statutes.add(row);
        return s.statutes.size() - 1;
    }

    public int force(int use, int day) {
        if (!in(use, 0, 3) || !in(day, 0, 3000)) return no(BEYOND);
        int number = forceOn(s, use, day);
        return number < 0 ? no(NONE) : number;
    }

    public int says(int statute, int a, int b, int c) {
        return at(s.statutes, statute) ? value(s.statutes.get(statute), a, b, c) : no(BEYOND);
    }

    // ---- bonds

    private static boolean contract(int[] bond) {
        return bond[KINDOF] == 1 || bond[KINDOF] == 2;
    }

    private int bond(int kind, int of, int first, int last, int sum, int town, int foe, int other) {
        s.bonds.add(new int[] {kind, of, first, last, town, foe, other, 0, -1, 0, sum, 0});
        return s.bonds.size() - 1;
    }

    private static boolean noDays(int first, int last) {
        return first < 0 || last > 3000 || first > last;
    }

    public int contract(int parties, int first, int last, int pay) {
        if (parties < 0 || parties > 999) return no(BEYOND);
        int town = parties / 100;
        int foe = parties % 100 / 10 - 1;
        int company = parties % 10;
        if (!at(s.towns, town) || !at(s.companies, company) || foe != -1 && !at(s.towns, foe)) return no(BEYOND);
        if (foe == town || noDays(first, last) || !in(pay, 0, 999)) return no(BEYOND);
        if (s.bonds.size() == 24) return no(FULL);
        return bond(1, company, first, last, pay, town, foe, -1);
    }

    public int renew(int bond, int days, int wish) {
        if (!at(s.bonds, bond) || !in(days, 1, 400) || !in(wish, 0, 1)) return no(BEYOND);
        int[] b = s.bonds.get(bond);
        if (b[LAST] + days > 3000) return no(BEYOND);
        if (!contract(b)) return no(KIND);
        if (b[RENEWED] == 1) return no(STATE);
        if (s.bonds.size() == 24) return no(FULL);
        b[RENEWED] = 1;
        return bond(2, b[OF], b[LAST] + 1, b[LAST] + days, b[SUM], b[TOWN], b[FOE], bond);
    }

    public int advance(int bond, int sum) {
        if (!at(s.bonds, bond) || !in(sum, 1, 9999)) return no(BEYOND);
        int[] b = s.bonds.get(bond);
        if (!contract(b)) return no(KIND);
        if (s.towns.get(b[TOWN])[COIN] < sum) return no(NONE);
        if (s.bonds.size() == 24) return no(FULL);
        s.towns.get(b[TOWN])[COIN] -= sum;
        s.companies.get(b[OF])[COIN] += sum;
        b[LEFT] += sum;
        return bond(3, b[OF], -1, -1, sum, b[TOWN], -1, bond);
    }

    public int truce(int a, int b, int first, int last) {
        if (!at(s.companies, a) || !at(s.companies, b) || a == b || noDays(first, last)) return no(BEYOND);
        if (s.bonds.size() == 24) return no(FULL);
        return bond(4, a, first, last, 0, -1, -1, b);
    }

    public int safe(int company, int town, int first, int last, int sum) {
        if (!at(s.companies, company) || !at(s.towns, town) || noDays(first, last)) return no(BEYOND);
        if (!in(sum, 0, 9999)) return no(BEYOND);
        if (s.towns.get(town)[COIN] < sum) return no(NONE);
        if (s.bonds.size() == 24) return no(FULL);
        s.towns.get(town)[COIN] -= sum;
        s.companies.get(company)[COIN] += sum;
        return bond(6, company, first, last, sum, town, -1, -1);
    }

    public int ransom(int lance, int sum) {
        if (!at(s.lances, lance) || !in(sum, 0, 9999)) return no(BEYOND);
        int[] l = s.lances.get(lance);
        if (l[HOW] != 2) return no(STATE);
        if (s.companies.get(l[0])[COIN] < sum) return no(NONE);
        if (s.bonds.size() == 24) return no(FULL);
        s.companies.get(l[0])[COIN] -= sum;
        s.towns.get(l[HOLDER])[COIN] += sum;
        int town = l[HOLDER];
        l[HOLDER] = -1;
        l[HOW] = 0;
        return bond(5, l[0], -1, -1, sum, town, -1, lance);
    }

    public int as(int bond, int kind) {
        if (!at(s.bonds, bond) || !in(kind, 0, 6)) return no(BEYOND);
        int[] b = s.bonds.get(bond);
        boolean is = kind == 0 || kind == b[KINDOF] || kind == 1 && b[KINDOF] == 2;
        return is ? b[SUM] : no(KIND);
    }

    public int bondIs(int bond, int what) {
        if (!at(s.bonds, bond) || !in(what, 0, 9)) return no(BEYOND);
        return s.bonds.get(bond)[what];
    }

    public int stop(int bond, int n) {
        if (!at(s.bonds, bond) || !in(n, 1, 9999)) return no(BEYOND);
        int[] b = s.bonds.get(bond);
        if (!contract(b)) return no(KIND);
        if (b[OWED] < n) return no(STATE);
        b[OWED] -= n;
        if (b[OWED] == 0) b[SINCE] = -1;
        return b[OWED];
    }

    public int pay(int bond, int n) {
        if (!at(s.bonds, bond) || !in(n, 1, 9999)) return no(BEYOND);
        int[] b = s.bonds.get(bond);
        if (!contract(b)) return no(KIND);
        if (b[OWED] < n) return no(STATE);
        if (s.towns.get(b[TOWN])[COIN] < n) return no(NONE);
        s.towns.get(b[TOWN])[COIN] -= n;
        s.companies.get(b[OF])[COIN] += n;
        b[OWED] -= n;
        if (b[OWED] == 0) b[SINCE] = -1;
        return b[OWED];
    }

    private int servedOn(int company, int day) {
        for (int[] b : s.bonds) {
            if (contract(b) && b[OF] == company && b[FIRST] <= day && day <= b[LAST]) return b[TOWN];
        }
        return -1;
    }

    public int serves(int company, int day) {
        if (!at(s.companies, company) || !in(day, 0, 3000)) return no(BEYOND);
        int town = servedOn(company, day);
        return town < 0 ? no(NONE) : town;
    }

    private static boolean has(int[] bond, int day) {
        return bond[FIRST] <= day && day <= bond[LAST];
    }

    private boolean clashOn(int[] x, int[] y, int day) {
        if (!has(x, day) || !has(y, day)) return false;
        if (contract(x) && contract(y)) return x[OF] == y[OF] && x[TOWN] != y[TOWN];
        int[] c = contract(x) ? x : y;
        int[] o = contract(x) ? y : x;
        if (!contract(c) || c[FOE] == -1) return false;
        if (o[KINDOF] == 6) return o[OF] == c[OF] && o[TOWN] == c[FOE];
        if (o[KINDOF] != 4) return false;
        for (int[] third : s.bonds) {
            if (!contract(third) || third[TOWN] != c[FOE] || !has(third, day)) continue;
            if (o[OF] == c[OF] && o[OTHER] == third[OF]) return true;
            if (o[OTHER] == c[OF] && o[OF] == third[OF]) return true;
        }
        return false;
    }

    private List<int[]> clashes() {
        List<int[]> all = new ArrayList<>();
        for (int i = 0; i < s.bonds.size(); i++) {
            for (int j = i + 1; j < s.bonds.size(); j++) {
                int first = Math.max(0, s.bonds.get(i)[FIRST]);
                int last = s.bonds.get(i)[LAST];
                for (int day = first; day <= last; day++) {
                    if (clashOn(s.bonds.get(i), s.bonds.get(j), day)) {
                        all.add(new int[] {i, j, day});
                        break;
                    }
                }
            }
        }
        return all;
    }

    public int clash(int i, int what) {
        if (i < 0 || !in(what, 0, 2)) return no(BEYOND);
        List<int[]> all = clashes();
        return i < all.size() ? all.get(i)[what] : no(NONE);
    }

    public int free(int company, boolean worst) {
        if (!at(s.companies, company)) return no(BEYOND);
        for (int day = s.day; day <= 3000; day++) {
            boolean busy = false;
            for (int[] b : s.bonds) {
                if (!contract(b) || b[OF] != company) continue;
                busy |= has(b, day);
                if (worst && b[RENEWED] == 0 && b[LAST] >= s.day) busy |= in(day, b[LAST] + 1, b[LAST] + 30);
            }
            if (!busy) return day;
        }
        return no(NONE);
    }

    // ---- musters

    private int[] numbers(int sheet) {
        Object o = sheets[sheet];
        if (o == null) return null;
        int n = java.lang.reflect.Array.getLength(o);
        int[] row = new int[n];
        for (int i = 0; i < n; i++) row[i] = java.lang.reflect.Array.getInt(o, i);
        return row;
    }

    public int muster(int company, int sheet) {
        if (!at(s.companies, company) || !in(sheet, 0, 3)) return no(BEYOND);
        if (sheets[sheet] == null) return no(NONE);
        if (s.companies.get(company)[LIES] == -1) return no(STATE);
        int[] told = numbers(sheet);
        if (told.length > 12) return no(KIND);
        for (int v : told) {
            if (!in(v, -1, 99)) return no(KIND);
        }
        int[] old = s.musters.get(company);
        int[] now = new int[3 + told.length];
        List<Integer> counted = new ArrayList<>();
        for (int i = 0; i < told.length; i++) {
            int mark = told[i];
            if (mark == -1 && old != null && i + 3 < old.length) mark = old[i + 3];
            now[i + 3] = mark;
            if (mark == -1 || counted.contains(mark)) continue;
            for (int[] l : s.lances) {
                if (l[0] != company || l[1] != mark || l[HOW] > 1) continue;
                Integer said = by(s, 0, l[2], l[1], l[HOW]);
                if (said == null ? l[HOW] == 0 : said != 0) counted.add(mark);
                break;
            }
        }
        now[0] = s.day;
        now[1] = s.companies.get(company)[LIES];
        now[2] = counted.size();
        s.musters.set(company, now);
        return now[2];
    }

    private boolean stands(int mark, int company) {
        int[] m = s.musters.get(company);
        for (int i = 3; m != null && i < m.length; i++) {
            if (m[i] == mark) return true;
        }
        return false;
    }

    public int twice(int mark, int a, int b) {
        if (!in(mark, 0, 99) || !at(s.companies, a) || !at(s.companies, b) || a == b) return no(BEYOND);
        if (!stands(mark, a) || !stands(mark, b)) return 0;
        int way = way(s.musters.get(a)[1], s.musters.get(b)[1]);
        int gone = Math.abs(s.musters.get(a)[0] - s.musters.get(b)[0]);
        return way < 0 || gone < way ? 2 : 1;
    }

    public int shown(int i) {
        if (i < 0) return no(BEYOND);
        List<Integer> marks = new ArrayList<>();
        for (int mark = 0; mark < 100; mark++) {
            int n = 0;
            for (int c = 0; c < s.companies.size(); c++) {
                if (stands(mark, c)) n++;
            }
            if (n > 1) marks.add(mark);
        }
        return i < marks.size() ? marks.get(i) : no(NONE);
    }

    // ---- walls, asking, parts

    public int hold(int town, int company, int guns, boolean twice) {
        if (!at(s.towns, town) || !at(s.companies, company) || !in(guns, 0, 99)) return no(BEYOND);
        int first = s.towns.get(town)[WALL];
        int wall = first;
        for (int day = 1; day <= 400; day++) {
            wall -= guns;
            if (twice) wall -= how(s, company, 0);
            wall += s.towns.get(town)[GUNS] / 10;
            if (wall > first) wall = first;
            if (wall <= 0) return day;
        }
        return no(NONE);
    }

    public int ask(int town, int sheet, int what) {
        if (!at(s.towns, town) || !in(sheet, 0, 3)) return no(BEYOND);
        if (sheets[sheet] == null) return no(NONE);
        int[] row = numbers(sheet);
        if (row.length == 0 || row.length % 3 != 0 || row.length > 12) return no(KIND);
        for (int v : row) {
            if (!in(v, 0, 9999)) return no(KIND);
        }
        if (!in(what, -1, row.length / 3 - 1)) return no(BEYOND);
        int[] best = asking(row, 0, 0, s.towns.get(town)[COIN]);
        return best[what + 1];
    }

    /** What is paid and lost, then whether each from i on is paid; the unpaid way first, so that it stays of equals. */
    private static int[] asking(int[] row, int i, int more, int coin) {
        if (i * 3 == row.length) return new int[1 + row.length / 3];
        int[] not = asking(row, i + 1, more, coin).clone();
        not[0] += row[3 * i + 1];
        int price = row[3 * i] + more;
        if (price > coin) return not;
        int[] paid = asking(row, i + 1, more + row[3 * i + 2], coin - price).clone();
        paid[0] += price;
        paid[i + 1] = 1;
        return paid[0] < not[0] ? paid : not;
    }

    public int parts(int sum, int sheet, int i) {
        if (!in(sum, 0, 99999) || !in(sheet, 0, 3)) return no(BEYOND);
        if (sheets[sheet] == null) return no(NONE);
        int[] row = numbers(sheet);
        long all = 0;
        for (int v : row) {
            if (!in(v, 0, 999)) return no(KIND);
            all += v;
        }
        if (all == 0) return no(KIND);
        if (!in(i, 0, row.length - 1)) return no(BEYOND);
        long[] part = new long[row.length];
        long[] rest = new long[row.length];
        long left = sum;
        for (int j = 0; j < row.length; j++) {
            part[j] = (long) sum * row[j] / all;
            rest[j] = (long) sum * row[j] - part[j] * all;
            left -= part[j];
        }
        for (; left > 0; left--) {
            int most = 0;
            for (int j = 1; j < row.length; j++) {
                if (rest[j] > rest[most]) most = j;
            }
            part[most]++;
            rest[most] = -1;
        }
        return (int) part[i];
    }

    public int share(int c) {
        if (!in(c, 0, 99999)) return no(BEYOND);
        Integer said = by(s, 3, c, 0, 0);
        if (said == null) return c / 3;
        return said < 0 ? 0 : said > c ? c : said;
    }

    // ---- winter, hiring

    public int winter(int company, int town, int cost) {
        if (!at(s.companies, company) || !at(s.towns, town) || !in(cost, 0, 9999)) return no(BEYOND);
        int was = s.winters.get(company)[town];
        s.winters.get(company)[town] = cost;
        return was;
    }

    /** The cost, then the TOWNS; all ways tried, the lesser TOWN first. */
    private int[] winterBest(int company, int taken) {
        if (company == s.companies.size()) return new int[1 + company];
        int[] best = null;
        for (int t = 0; t < s.towns.size(); t++) {
            if ((taken & 1 << t) != 0) continue;
            int[] rest = winterBest(company + 1, taken | 1 << t);
            rest[0] += s.winters.get(company)[t];
            rest[company + 1] = t;
            if (best == null || rest[0] < best[0]) best = rest;
        }
        return best;
    }

    public int wintering(int what) {
        if (!in(what, -1, s.companies.size() - 1)) return no(BEYOND);
        if (s.towns.size() < s.companies.size()) return no(STATE);
        return winterBest(0, 0)[what + 1];
    }

    private int[] hireBest(int[] row, int season, int last) {
        if (season * 3 == row.length) return new int[1 + row.length / 3];
        int[] best = null;
        for (int c = -1; c < s.companies.size(); c++) {
            int[] rest = hireBest(row, season + 1, c);
            int fit = c == -1 ? 0 : how(s, c, 0);
            rest[0] += fit * row[3 * season + 2];
            if (c != -1 && c != last) rest[0] += 10;
            if (fit < row[3 * season]) rest[0] += row[3 * season + 1];
            rest[season + 1] = c;
            if (best == null || rest[0] < best[0]) best = rest;
        }
        return best;
    }

    public int hiring(int sheet, int what) {
        if (!in(sheet, 0, 3)) return no(BEYOND);
        if (sheets[sheet] == null) return no(NONE);
        int[] row = numbers(sheet);
        if (row.length == 0 || row.length % 3 != 0 || row.length > 15) return no(KIND);
        for (int v : row) {
            if (!in(v, 0, 9999)) return no(KIND);
        }
        if (!in(what, -1, row.length / 3 - 1)) return no(BEYOND);
        return hireBest(row, 0, -1)[what + 1];
    }

    // ---- days, ahead

    private static void endDay(State s) {
        s.day++;
        for (int[] c : s.companies) {
            if (c[LIES] == -1 && c[COMES] == s.day) c[LIES] = c[GOAL];
        }
        for (int i = 0; i < s.companies.size(); i++) {
            int[] c = s.companies.get(i);
            boolean enough = true;
            for (int[] l : s.lances) {
                if (l[0] != i || l[HOW] > 1) continue;
                if (c[BREAD] > 0) c[BREAD]--;
                else if (c[LIES] != -1 && s.towns.get(c[LIES])[BREAD] > 0) s.towns.get(c[LIES])[BREAD]--;
                else enough = false;
            }
            c[HUNGER] = enough ? 0 : c[HUNGER] + 1;
            if (c[HUNGER] == 1 || c[HUNGER] == 2) continue;
            int from = c[HUNGER] >= 3 && c[HUNGER] <= 5 ? 0 : 1;
            int to = c[HUNGER] == 0 ? 0 : c[HUNGER] <= 5 ? 1 : 3;
            for (int[] l : s.lances) {
                if (l[0] == i && l[HOW] == from) {
                    l[HOW] = to;
                    break;
                }
            }
        }
        if (s.day % 30 == 0) month(s);
    }

    private static void month(State s) {
        for (int[] b : s.bonds) {
            if (!contract(b) || !has(b, s.day)) continue;
            int[] m = s.musters.get(b[OF]);
            int n = m == null ? 0 : m[2];
            Integer said = by(s, 1, n, b[SUM], 0);
            int due = said == null ? n * b[SUM] : said;
            int owed = b[OWED] + (due < 0 ? 0 : due > 99999 ? 99999 : due);
            int off = Math.min(owed, b[LEFT]);
            b[LEFT] -= off;
            owed -= off;
            int paid = Math.min(owed, s.towns.get(b[TOWN])[COIN]);
            s.towns.get(b[TOWN])[COIN] -= paid;
            s.companies.get(b[OF])[COIN] += paid;
            owed -= paid;
            if (owed == 0) b[SINCE] = -1;
            else if (b[OWED] == 0) b[SINCE] = s.day;
            b[OWED] = owed;
        }
    }

    public int days(int n) {
        if (!in(n, 1, 200) || s.day + n > 3000) return no(BEYOND);
        for (int i = 0; i < n; i++) endDay(s);
        return s.day;
    }

    public int ahead(int n, int what, int i) {
        if (!in(n, 0, 200) || s.day + n > 3000 || !in(what, 0, 6)) return no(BEYOND);
        if (!at(what < 2 ? s.towns : what < 6 ? s.companies : s.bonds, i)) return no(BEYOND);
        State then = s.copy();
        for (int day = 0; day < n; day++) endDay(then);
        switch (what) {
            case 0: case 1: return then.towns.get(i)[what];
            case 2: case 3: return then.companies.get(i)[what - 2];
            case 4: case 5: return how(then, i, what - 4);
            default: return then.bonds.get(i)[OWED];
        }
    }

    // ---- voices, sheets, images, what is told

    private static class VBond {
        final List<Integer> log = new ArrayList<>();
        int n;
        int w;

        int bind(int x) { log.add(10); return x + n; }
        int pay(int x) { log.add(11); return bind(x) + w; }
        int end(int x) { log.add(12); return x * 2 - n; }
        int tell(int x) { log.add(13); return pay(x) ^ end(x); }
    }

    private static class VContract extends VBond {
        @Override int pay(int x) { log.add(20); return super.pay(x) * 2; }
        @Override int end(int x) { log.add(21); return super.end(x - 1); }
    }

    private static final class VRenewal extends VContract {
        @Override int end(int x) { log.add(30); return super.end(x) + bind(x); }
        @Override int bind(int x) { log.add(31); return super.bind(x) * 3; }
    }

    private static final class VAdvance extends VBond {
        @Override int pay(int x) { log.add(40); return x - super.pay(x); }
    }

    private static final class VTruce extends VBond {
        @Override int tell(int x) { log.add(50); return super.tell(x) - 1; }
        @Override int bind(int x) { log.add(51); return super.bind(x + w); }
    }

    private static final class VRansom extends VBond {
        @Override int end(int x) { log.add(60); return pay(x) - super.end(x); }
    }

    private static final class VSafe extends VBond {
        @Override int tell(int x) { log.add(70); return end(x) + super.tell(x + 1); }
    }

    private static VBond voiceOf(int kind) {
        switch (kind) {
            case 1: return new VContract();
            case 2: return new VRenewal();
            case 3: return new VAdvance();
            case 4: return new VTruce();
            case 5: return new VRansom();
            case 6: return new VSafe();
            default: return new VBond();
        }
    }

    public int voice(int bond, int act, int x) {
        if (!at(s.bonds, bond) || !in(act, 0, 3)) return no(BEYOND);
        VBond v = voiceOf(s.bonds.get(bond)[KINDOF]);
        v.n = bond;
        v.w = s.bonds.get(bond)[SUM];
        trace = v.log;
        return act == 0 ? v.bind(x) : act == 1 ? v.pay(x) : act == 2 ? v.end(x) : v.tell(x);
    }

    public int trace(int i) {
        return at(trace, i) && i < 40 ? trace.get(i) : no(NONE);
    }

    public int sheet(int sheet, int bits, int n) {
        if (!in(sheet, 0, 3) || bits != 0 && bits != 8 && bits != 16 && bits != 32) return no(BEYOND);
        if (bits == 0) {
            sheets[sheet] = null;
            return 1;
        }
        if (n < 0) return no(STATE);
        if (n > 24) return no(BEYOND);
        sheets[sheet] = bits == 8 ? new byte[n] : bits == 16 ? new short[n] : new int[n];
        return 1;
    }

    public int put(int sheet, int i, int v) {
        if (!in(sheet, 0, 3)) return no(BEYOND);
        Object o = sheets[sheet];
        if (o == null) return no(NONE);
        if (!in(i, 0, java.lang.reflect.Array.getLength(o) - 1)) return no(BEYOND);
        if (o instanceof byte[] b) b[i] = (byte) v;
        else if (o instanceof short[] h) h[i] = (short) v;
        else if (o instanceof int[] w) w[i] = v;
        return 1;
    }

    public int move(int sheet, int i, int other, int j, int n) {
        if (!in(sheet, 0, 3) || !in(other, 0, 3)) return no(BEYOND);
        if (sheets[sheet] == null || sheets[other] == null) return no(NONE);
        if (sheets[sheet].getClass() != sheets[other].getClass()) return no(KIND);
        int from = numbers(sheet).length;
        int to = numbers(other).length;
        if (n < 0 || i < 0 || j < 0 || (long) i + n > from || (long) j + n > to) return no(BEYOND);
        int[] row = numbers(sheet);
        for (int k = 0; k < n; k++) {
            found[0] = put(other, j + k, row[i + k]);
        }
        return n;
    }

    public int image() {
        kept = s.copy();
        return ++images;
    }

    public int restore() {
        if (kept == null) return no(NONE);
        s = kept.copy();
        return s.day;
    }

    public int tell(int v) {
        if (s.waiting.size() == 20) return no(FULL);
        s.waiting.add(v);
        return s.waiting.size();
    }

    public int judge() {
        List<Integer> told = s.waiting;
        s.waiting = new ArrayList<>();
        int cs = s.companies.size();
        int ts = s.towns.size();
        if (ts < cs) return no(STATE);
        if (told.size() != cs + ts) return 1;
        long all = 0;
        boolean more = false;
        for (int t = 0; t < ts; t++) {
            if (told.get(cs + t) > 0) return 2;
            all += told.get(cs + t);
        }
        for (int c = 0; c < cs; c++) {
            all += told.get(c);
            for (int t = 0; t < ts; t++) {
                more |= 0L + told.get(c) + told.get(cs + t) > s.winters.get(c)[t];
            }
        }
        return more ? 3 : all == winterBest(0, 0)[0] ? 0 : 4;
    }

    public int count(int what) {
        int n = 0;
        switch (what) {
            case 0: return s.towns.size();
            case 1: return s.roads.size();
            case 2: return s.companies.size();
            case 3: return s.lances.size();
            case 4: return s.statutes.size();
            case 5: return s.bonds.size();
            case 6: return s.day;
            case 7: return s.tape.size();
            case 8: return trace.size();
            case 9: return s.waiting.size();
            case 10:
                for (int[] t : s.towns) n += t[COIN];
                for (int[] c : s.companies) n += c[COIN];
                return n;
            case 11:
                for (int[] l : s.lances) n += l[HOW] == 0 ? 1 : 0;
                return n;
            case 12: return clashes().size();
            case 13:
                for (int[] b : s.bonds) n += b[OWED];
                return n;
            default: return no(BEYOND);
        }
    }

    public int found(int k) {
        return in(k, 1, 5) ? found[k] : no(BEYOND);
    }
}
