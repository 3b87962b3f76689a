import java.lang.reflect.Method;
import java.util.ArrayList;
import java.util.Arrays;
import java.util.List;
import java.util.Map;
import java.util.Random;
import java.util.TreeMap;

/**
 * Random runs of up to 512 calls: every answer is the Model's. A twin gets only the calls that answered no
 * finding, and must answer the same: a call that answers a finding changes nothing but what found() tells.
 */
public final class RandomRunsTest {
    private static final int RUNS = 1500;
    private static final int CALLS = 512;

    /** A letter for each parameter, of which number() makes one; a digit d: 0 .. d. How often stands behind. */
    private static final String[] CALL_FORMS = {
        "town $$ 1", "road TTr 3", "far TT 4", "townIs T4 8", "wall TWg 3", "harvest Tn 3", "company Tmm 1",
        "march CT 4", "buy Cn 5", "about C8 14", "lance CMH 8", "lanceIs L4 8", "over LC 10", "take TL 5",
        "feed fb 1", "statute 3d 1", "force 3d 4", "says Zvvv 5", "contract kddp 6", "renew BR1 6",
        "advance Bn 4", "truce CCdd 4", "safe CTddn 4", "ransom Ln 5", "as B6 4", "bondIs B9 14", "stop Bn 8",
        "pay Bn 8", "serves Cd 5", "clash i2 8", "free C1 6", "muster CS 5", "twice MCC 6", "shown i 4",
        "hold TCg1 4", "ask TSi 5", "parts $Si 5", "share $ 4", "winter CTx 8", "wintering i 6", "hiring Si 5",
        "days D 12", "ahead D6i 12", "voice B3v 6", "trace i 5", "sheet Sqs 2", "put Sis 4", "move SiSij 5",
        "image - 2", "restore - 1", "tell v 1", "judge - 1", "count j 8", "found i 3",
    };

    private static final String[] NAMES = {"hms", "np", "lo", "c"};

    private static int wrong = 0;

    private final Random random;
    private final FreeLances real = new FreeLances();
    private final FreeLances twin = new FreeLances();
    private final Model model = new Model();
    private final List<String> log = new ArrayList<>();
    private final Map<String, Integer> tally;
    private boolean failed = false;

    private RandomRunsTest(long seed, Map<String, Integer> tallyNow) {
        random = new Random(seed);
        tally = tallyNow;
    }

    public static void main(String[] args) throws Exception {
        Map<String, Integer> tally = new TreeMap<>();
        int runs = args.length > 0 ? Integer.parseInt(args[0]) : RUNS;
        for (int seed = 1; seed <= runs && wrong < 5; seed++) {
            RandomRunsTest run = new RandomRunsTest(seed, tally);
            run.go();
            if (run.failed) {
                wrong++;
                System.out.println("seed " + seed + ":");
                for (String line : run.log) {
                    System.out.println("  " + line);
                }
            }
        }
        if (args.length > 1) {
            System.out.println(tally);
        }
        System.out.println(wrong == 0 ? runs + " random runs are as due" : wrong + " random runs are not as due");
        if (wrong != 0) {
            System.exit(1);
        }
    }

    private void go() throws Exception {
        List<String> bag = new ArrayList<>();
        for (String form : CALL_FORMS) {
            String[] parts = form.split(" ");
            int often = Integer.parseInt(parts[2]);
            // Each run likes some calls more than others.
            int turns = random.nextInt(4) == 0 ? 0 : random.nextInt(6) == 0 ? often * 4 : often;
            for (int i = 0; i < turns; i++) {
                bag.add(parts[0] + " " + parts[1]);
            }
        }
        begin();
        while (log.size() < CALLS - 30 && !failed) {
            int kind = random.nextInt(80);
            if (kind == 0) {
                enact();
            } else if (kind == 1) {
                fill();
            } else if (kind == 2) {
                tellRows();
            } else if (kind <= 5) {
                serve();
            } else {
                String[] parts = bag.get(random.nextInt(bag.size())).split(" ");
                call(parts[0], numbers(parts[1]));
            }
        }
    }

    private void begin() throws Exception {
        int towns = random.nextInt(9);
        for (int i = 0; i < towns; i++) {
            call("town", random.nextInt(3) == 0 ? 99999 : random.nextInt(2000), random.nextInt(9000));
        }
        for (int i = random.nextInt(10); i > 0 && towns > 1; i--) {
            call("road", random.nextInt(towns), random.nextInt(towns), 1 + random.nextInt(9));
        }
        for (int i = random.nextInt(6); i > 0 && towns > 0; i--) {
            call("company", random.nextInt(Math.min(2, towns)), random.nextInt(500), random.nextInt(100));
        }
        for (int i = random.nextInt(25); i > 0 && model.count(2) > 0; i--) {
            call("lance", random.nextInt(model.count(2)), random.nextInt(8), 100 + random.nextInt(81));
        }
        for (int i = random.nextInt(8); i > 0 && model.count(2) > 0; i--) {
            call("contract", parties(), random.nextInt(40), 40 + random.nextInt(200), random.nextInt(200));
        }
    }

    private int parties() {
        return 100 * random.nextInt(Math.max(1, model.count(0))) + 10 * random.nextInt(model.count(0) + 1)
            + random.nextInt(Math.max(1, model.count(2)));
    }

    /** A TEXT, often a little broken, is fed and becomes a STATUTE. */
    private void enact() throws Exception {
        int use = random.nextInt(4);
        StringBuilder text = new StringBuilder();
        write(text, use, random.nextInt(5), 0);
        if (random.nextInt(4) == 0 && text.length() > 0) {
            int at = random.nextInt(text.length());
            String signs = "|&<=>+-*/!()0123456789hmsnplocx \u00ff";
            text.setCharAt(at, signs.charAt(random.nextInt(signs.length())));
        }
        if (random.nextInt(6) == 0) {
            text.setLength(random.nextInt(text.length() + 1));
        }
        for (int i = 0; i < text.length() && i < 50; i += 8) {
            long word = 0;
            int n = Math.min(8, text.length() - i);
            for (int j = 0; j < n; j++) {
                word |= (text.charAt(i + j) & 255L) << 8 * j;
            }
            call("feed", word, n);
        }
        call("statute", use, random.nextInt(3) == 0 ? random.nextInt(200) : 0);
        if (model.count(4) > 0) {
            call("says", model.count(4) - 1, random.nextInt(300), random.nextInt(100), random.nextInt(2));
        }
    }

    private void write(StringBuilder text, int use, int deep, int depth) {
        if (deep <= 0 || text.length() > 40) {
            String names = NAMES[use];
            boolean name = random.nextBoolean();
            text.append(name ? String.valueOf(names.charAt(random.nextInt(names.length()))) : "" + random.nextInt(200));
            return;
        }
        int kind = random.nextInt(8);
        if (kind == 0) {
            text.append('!');
            write(text, use, deep > 3 ? deep - 1 : 0, depth + 1);
        } else if (kind == 1) {
            text.append('(');
            write(text, use, deep - 1, depth + 1);
            text.append(')');
        } else {
            String signs = "|&<=>+-*/";
            write(text, use, deep - 1 - random.nextInt(2), depth);
            text.append(signs.charAt(random.nextInt(signs.length())));
            write(text, use, deep - 1 - random.nextInt(2), depth);
        }
    }

    /** A SHEET of a size and with numbers that some call can use. */
    private void fill() throws Exception {
        int sheet = random.nextInt(4);
        int[] sizes = {0, 1, 2, 3, 6, 9, 12, 15, 13, 24, 4, 5};
        int size = sizes[random.nextInt(sizes.length)];
        int[] tops = {8, 50, 999, 9999};
        int top = tops[random.nextInt(tops.length)];
        call("sheet", sheet, top < 100 ? 8 << random.nextInt(3) : 32, size);
        for (int i = 0; i < size && i < 15; i++) {
            call("put", sheet, i, random.nextInt(12) == 0 ? random.nextInt(3) - 1 : random.nextInt(top + 1));
        }
        int[] uses = {random.nextInt(5), random.nextInt(5) - 1};
        call("muster", random.nextInt(5), sheet);
        call("ask", random.nextInt(8), sheet, uses[1]);
        call("hiring", sheet, uses[1]);
        call("parts", random.nextInt(100000), sheet, uses[0]);
    }

    /** A COMPANY shows what it has, serves over a MONTH, and something is done about what is OWED. */
    private void serve() throws Exception {
        int company = random.nextInt(5);
        int day = model.count(6);
        call("contract", parties() / 10 * 10 + company, day, Math.min(3000, day + 80), random.nextInt(1000));
        int sheet = random.nextInt(4);
        int size = 1 + random.nextInt(6);
        call("sheet", sheet, 8, size);
        for (int i = 0; i < size; i++) {
            call("put", sheet, i, random.nextInt(9) - 1);
        }
        call("muster", company, sheet);
        call("days", 30);
        for (int bond = 0; bond < model.count(5); bond++) {
            int owed = model.bondIs(bond, 7);
            if (owed > 0 && random.nextBoolean()) {
                call(random.nextBoolean() ? "pay" : "stop", bond, 1 + random.nextInt(Math.min(9999, owed)));
                call("bondIs", bond, 8);
            }
        }
        call("over", number('L'), number('C'));
        call("count", 13);
    }

    /** As many numbers as ROWS have, often such as prove it where all costs are 0 or nearly. */
    private void tellRows() throws Exception {
        if (model.count(9) > 0) {
            call("judge");
        }
        int rows = model.count(0) + model.count(2);
        for (int i = 0; i < rows; i++) {
            int v = random.nextInt(3) > 0 ? 0 : i < model.count(2) ? random.nextInt(20) - 5 : random.nextInt(8) - 6;
            call("tell", v);
        }
        call("judge");
    }

    private long[] numbers(String letters) {
        if (letters.equals("-")) {
            return new long[0];
        }
        long[] made = new long[letters.length()];
        for (int i = 0; i < made.length; i++) {
            made[i] = number(letters.charAt(i));
        }
        return made;
    }

    private long number(char letter) {
        int odd = random.nextInt(150);
        if (odd == 0) {
            return letter == 'b' ? 9 : random.nextBoolean() ? Integer.MAX_VALUE : Integer.MIN_VALUE;
        }
        if (odd == 1) {
            return -1;
        }
        if (letter >= '0' && letter <= '9') {
            return random.nextInt(20) == 0 ? letter - '0' + 1 : random.nextInt(letter - '0' + 1);
        }
        switch (letter) {
            case 'T': return among(model.count(0));
            case 'C': return among(model.count(2));
            case 'L': return among(model.count(3));
            case 'Z': return among(model.count(4));
            case 'B': return among(model.count(5));
            case 'S': return random.nextInt(30) == 0 ? 4 : random.nextInt(4);
            case '$': return edge(0, 99999);
            case 'm': return edge(0, 9999);
            case 'n': return random.nextInt(3) == 0 ? edge(1, 9999) : 1 + random.nextInt(60);
            case 'r': return edge(1, 9);
            case 'j': return random.nextInt(15);
            case 'W': return random.nextInt(2) == 0 ? random.nextInt(40) : edge(0, 999);
            case 'g': return random.nextInt(2) == 0 ? random.nextInt(12) : edge(0, 99);
            case 'M': return random.nextInt(10) == 0 ? edge(0, 99) : random.nextInt(8);
            case 'H': return edge(100, 180);
            case 'd': return random.nextInt(12) == 0 ? edge(0, 3000) : random.nextInt(3) == 0
                ? Math.min(3000, model.count(6) + random.nextInt(90)) : random.nextInt(300);
            case 'D': return random.nextInt(12) == 0 ? edge(1, 200) : random.nextInt(30);
            case 'R': return random.nextInt(8) == 0 ? edge(1, 400) : 1 + random.nextInt(60);
            case 'k': return random.nextInt(20) == 0 ? random.nextInt(1200) - 50 : parties();
            case 'p': return edge(0, 999);
            case 'x': return random.nextInt(10) == 0 ? edge(0, 9999) : random.nextInt(12);
            case 'q': return new int[] {0, 8, 16, 32, 8, 16, 32, 7}[random.nextInt(8)];
            case 's': return random.nextInt(4) == 0 ? random.nextInt(70000) - 3000 : random.nextInt(26);
            case 'v': return random.nextInt(4) == 0 ? random.nextInt() : random.nextInt(200) - 20;
            case 'b': return 1 + random.nextInt(8);
            case 'f': return random.nextLong();
            default: return random.nextInt(7) - (random.nextInt(4) == 0 ? 1 : 0);
        }
    }

    private long among(int count) {
        return random.nextInt(25) == 0 ? count : random.nextInt(Math.max(1, count));
    }

    private long edge(int least, int greatest) {
        switch (random.nextInt(8)) {
            case 0: return least;
            case 1: return greatest;
            case 2: return random.nextInt(3) == 0 ? least - 1 : least + 1;
            case 3: return random.nextInt(3) == 0 ? greatest + 1 : greatest - 1;
            default: return least + random.nextInt(greatest - least + 1);
        }
    }

    private void call(String name, long... numbers) throws Exception {
        if (failed || log.size() >= CALLS) {
            return;
        }
        Method method = methodOf(FreeLances.class, name);
        Object[] given = given(method, numbers);
        int got = (Integer) method.invoke(real, given);
        int want = (Integer) methodOf(Model.class, name).invoke(model, given);
        String text = name + Arrays.toString(given) + " answered " + got;
        boolean finding = want <= -1000001 && want >= -1000005 && !name.equals("says") && !name.equals("voice");
        tally.merge(name + (finding ? " " + (-1000000 - want) : ""), 1, Integer::sum);
        if (got != want) {
            failed = true;
            text += ", due is " + want;
        }
        if (!name.equals("found") && (!finding || name.equals("judge"))) {
            int other = (Integer) method.invoke(twin, given);
            if (other != want) {
                failed = true;
                text += ", without the calls that found something " + other;
            }
        }
        log.add(text);
    }

    private static final Map<String, Method> METHODS = new TreeMap<>();

    private static Method methodOf(Class<?> type, String name) {
        String key = type.getName() + " " + name;
        if (METHODS.isEmpty()) {
            for (Class<?> each : new Class<?>[] {FreeLances.class, Model.class}) {
                for (Method method : each.getMethods()) {
                    METHODS.put(each.getName() + " " + method.getName(), method);
                }
            }
        }
        return METHODS.get(key);
    }

    private static Object[] given(Method method, long[] numbers) {
        Class<?>[] types = method.getParameterTypes();
        Object[] given = new Object[types.length];
        for (int i = 0; i < types.length; i++) {
            if (types[i] == boolean.class) {
                given[i] = numbers[i] == 1;
            } else if (types[i] == long.class) {
                given[i] = numbers[i];
            } else {
                given[i] = (int) numbers[i];
            }
        }
        return given;
    }
}
