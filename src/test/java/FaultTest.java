import java.util.Arrays;
import java.util.Random;

/**
 * FAULTS by the words of the document: the place of the first byte with which no TEXT goes on. Whether some bytes
 * are a TEXT is asked of the grammar itself, rule by rule over all ways to cut them; whether one goes on with some
 * is whether an end of operand and closing brackets makes them a TEXT.
 */
public final class FaultTest {
    private static final String[] NAMES = {"hms", "np", "lo", "c"};
    private static final String[] SIGNS = {"|", "&", "<=>", "+-", "*/"};
    private static final int COMPARING = 2;
    private static final int MOST_OPEN = 5;
    private static final int CALLS = 500;
    private static final int LONGEST_OF_ALL = 5;
    private static final int RANDOM_TEXTS = 1500;

    private static int texts = 0;
    private static int faults = 0;
    private static int wrong = 0;
    private static FreeLances object = null;
    private static int calls = 0;

    private FaultTest() {
    }

    public static void main(String[] args) {
        for (int length = 0; length <= LONGEST_OF_ALL; length++) {
            lookAtAll("", length);
        }
        Random random = new Random(17);
        for (int i = 0; i < RANDOM_TEXTS; i++) {
            int use = random.nextInt(4);
            look(written(random, use), use);
        }
        System.out.println(texts + " TEXTS and " + faults + " FAULTS were looked at, " + wrong + " not as due");
        if (wrong != 0 || texts == 0 || faults == 0) {
            System.exit(1);
        }
    }

    private static void lookAtAll(String begun, int more) {
        if (more == 0) {
            look(begun, 0);
            return;
        }
        for (char sign : "1h!()+<|".toCharArray()) {
            lookAtAll(begun + sign, more - 1);
        }
    }

    /** Mostly what a TEXT could go on with, so that FAULTS stand far behind, too. */
    private static String written(Random random, int use) {
        String all = "|&<=>+-*/!()0123456789 ~" + String.join("", NAMES);
        StringBuilder text = new StringBuilder();
        int length = random.nextInt(22);
        int slips = random.nextInt(3);
        for (int turn = 0; text.length() < length && turn < 200; turn++) {
            text.append(all.charAt(random.nextInt(all.length())));
            if (!goesOn(text.toString(), use) && slips-- <= 0) {
                text.setLength(text.length() - 1);
                slips++;
            }
        }
        return text.toString();
    }

    private static void look(String text, int use) {
        int want = faultOf(text, use);
        int got = answerOf(text, use);
        boolean holds = want < 0 ? got == 0 : got == -10 - want;
        texts += want < 0 ? 1 : 0;
        faults += want < 0 ? 0 : 1;
        if (!holds) {
            wrong++;
            System.out.println(text + " of USE " + use + " answered " + got + ", its FAULT is " + want);
        }
    }

    private static int answerOf(String text, int use) {
        if (object == null || calls > CALLS) {
            object = new FreeLances();
            object.image();
            calls = 1;
        }
        for (int i = 0; i < text.length(); i++) {
            object.feed(text.charAt(i), 1);
        }
        int answer = object.statute(use, 0);
        object.restore();
        calls += text.length() + 2;
        return answer;
    }

    // ---- by the words of the document

    private static int faultOf(String text, int use) {
        for (int i = 0; i < text.length(); i++) {
            if (!goesOn(text.substring(0, i + 1), use)) {
                return i;
            }
        }
        return isText(text, use) ? -1 : text.length();
    }

    private static boolean goesOn(String begun, int use) {
        for (int closed = 0; closed <= MOST_OPEN; closed++) {
            String end = ")".repeat(closed);
            if (isText(begun + end, use) || isText(begun + "1" + end, use)) {
                return true;
            }
        }
        return false;
    }

    private static boolean isText(String text, int use) {
        int size = text.length() + 1;
        byte[] known = new byte[(SIGNS.length + 1) * size * size * (MOST_OPEN + 1)];
        return new Grammar(text, NAMES[use], known).is(0, 0, text.length(), 0);
    }

    /** Whether a part of some bytes is a T, A, B, S, P, Q (0 .. 5) with so many open around it. */
    private static final class Grammar {
        private static final byte YES = 1;
        private static final byte NO = 2;

        private final String text;
        private final String names;
        private final byte[] known;

        Grammar(String textNow, String namesNow, byte[] knownNow) {
            text = textNow;
            names = namesNow;
            known = knownNow;
            Arrays.fill(known, (byte) 0);
        }

        boolean is(int rule, int from, int to, int open) {
            if (from >= to) {
                return false;
            }
            int size = text.length() + 1;
            int at = ((rule * size + from) * size + to) * (MOST_OPEN + 1) + open;
            if (known[at] == 0) {
                boolean holds = rule < SIGNS.length ? joined(rule, from, to, open) : single(from, to, open);
                known[at] = holds ? YES : NO;
            }
            return known[at] == YES;
        }

        private boolean joined(int rule, int from, int to, int open) {
            if (is(rule + 1, from, to, open)) {
                return true;
            }
            int left = rule == COMPARING ? rule + 1 : rule;
            for (int i = from + 1; i < to - 1; i++) {
                boolean sign = SIGNS[rule].indexOf(text.charAt(i)) >= 0;
                if (sign && is(rule + 1, i + 1, to, open) && is(left, from, i, open)) {
                    return true;
                }
            }
            return false;
        }

        private boolean single(int from, int to, int open) {
            String part = text.substring(from, to);
            if (part.matches("[0-9]{1,4}") || part.length() == 1 && names.contains(part)) {
                return true;
            }
            if (open == MOST_OPEN) {
                return false;
            }
            boolean not = part.startsWith("!") && is(SIGNS.length, from + 1, to, open + 1);
            return not || part.startsWith("(") && part.endsWith(")") && is(0, from + 1, to - 1, open + 1);
        }
    }
}
