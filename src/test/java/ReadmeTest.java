import java.io.IOException;
import java.lang.reflect.Method;
import java.lang.reflect.Modifier;
import java.nio.file.Files;
import java.nio.file.Path;
import java.util.ArrayList;
import java.util.List;
import java.util.Map;
import java.util.Set;
import java.util.TreeMap;
import java.util.TreeSet;
import java.util.regex.Matcher;
import java.util.regex.Pattern;

/**
 * What README.md shows: each call in its Java examples is made, and answers what stands behind it. Only the forms
 * below are taken, all of which are Java, so that no line of an example goes unseen.
 */
public final class ReadmeTest {
    private static final Pattern MADE = Pattern.compile("FreeLances (\\w+) = new FreeLances\\(\\);");
    private static final Pattern CALL =
        Pattern.compile("(?:int (\\w+) = )?(\\w+)\\.(\\w+)\\(([^()]*)\\); +// (-?\\d+)(?:: .*)?");
    private static final Pattern FINDING = Pattern.compile("\\| (-\\d+) \\| ([A-Z]+) \\| .* \\|");
    private static final String[] FINDINGS = {"BEYOND", "NONE", "STATE", "FULL", "KIND"};
    private static final int LOW = -1000000;
    private static final int CALLS = 512;

    private final Map<String, FreeLances> objects = new TreeMap<>();
    private final Map<String, Integer> calls = new TreeMap<>();
    private final Map<String, Integer> names = new TreeMap<>();
    private final Set<String> called = new TreeSet<>();
    private final Set<Integer> answers = new TreeSet<>();
    private int asked = 0;
    private int wrong = 0;

    public static void main(String[] args) throws Exception {
        ReadmeTest test = new ReadmeTest();
        List<String> lines = Files.readAllLines(Path.of("README.md"));
        test.runExamples(lines);
        test.lookForEachCall();
        test.lookAtFindings(lines);
        test.lookForCommand(lines);
        System.out.println(test.wrong == 0 ? test.asked + " calls in README.md answer as it says"
            : test.wrong + " things in README.md are not as it says");
        if (test.wrong != 0) {
            System.exit(1);
        }
    }

    private void check(boolean holds, String what) {
        if (!holds) {
            wrong++;
            System.out.println(what);
        }
    }

    private static List<String> blocksOf(List<String> lines, String language) {
        List<String> inside = new ArrayList<>();
        boolean open = false;
        for (String line : lines) {
            if (line.startsWith("```")) {
                open = line.equals("```" + language);
            } else if (open && !line.isBlank()) {
                inside.add(line);
            }
        }
        return inside;
    }

    private void runExamples(List<String> lines) throws ReflectiveOperationException {
        for (String line : blocksOf(lines, "java")) {
            Matcher made = MADE.matcher(line);
            Matcher call = CALL.matcher(line);
            if (made.matches()) {
                check(objects.put(made.group(1), new FreeLances()) == null, line + " stands there twice");
            } else if (call.matches()) {
                runCall(line, call);
            } else {
                check(false, line + " is no line that this test can read");
            }
        }
    }

    private void runCall(String line, Matcher call) throws ReflectiveOperationException {
        FreeLances object = objects.get(call.group(2));
        Method method = methodOf(call.group(3));
        String[] told = call.group(4).isBlank() ? new String[0] : call.group(4).split(", ");
        if (object == null || method == null || method.getParameterCount() != told.length) {
            check(false, line + " is no call");
            return;
        }
        Object[] given = new Object[told.length];
        for (int i = 0; i < told.length; i++) {
            given[i] = valueOf(told[i], method.getParameterTypes()[i], line);
        }
        int got = (Integer) method.invoke(object, given);
        int want = Integer.parseInt(call.group(5));
        asked++;
        called.add(method.getName());
        answers.add(want);
        check(got == want, line + " answered " + got);
        check(calls.merge(call.group(2), 1, Integer::sum) <= CALLS, line + " is one call too many");
        String name = call.group(1);
        check(name == null || names.put(name, got) == null, line + " takes a name twice");
        int finding = LOW - want;
        if (finding >= 1 && finding <= FINDINGS.length) {
            check(line.contains("// " + want + ": " + FINDINGS[finding - 1]), line + " doesn't name its finding");
        }
    }

    private Object valueOf(String told, Class<?> type, String line) {
        if (type == boolean.class) {
            check(told.equals("true") || told.equals("false"), line + " wants true or false");
            return told.equals("true");
        }
        if (type == long.class) {
            check(told.matches("0x[0-9a-f]{1,16}L"), line + " wants a word");
            return Long.parseUnsignedLong(told.replaceAll("0x|L", ""), 16);
        }
        if (told.matches("-?\\d+")) {
            return Integer.parseInt(told);
        }
        check(names.containsKey(told), line + " has a name that no line gave");
        return names.getOrDefault(told, 0);
    }

    private static Method methodOf(String name) {
        for (Method method : FreeLances.class.getDeclaredMethods()) {
            if (method.getName().equals(name) && Modifier.isPublic(method.getModifiers())) {
                return method;
            }
        }
        return null;
    }

    private void lookForEachCall() {
        for (Method method : FreeLances.class.getDeclaredMethods()) {
            boolean open = Modifier.isPublic(method.getModifiers());
            check(!open || called.contains(method.getName()), method.getName() + " is shown in no example");
        }
        for (int k = 1; k <= FINDINGS.length; k++) {
            check(answers.contains(LOW - k), FINDINGS[k - 1] + " is shown in no example");
        }
    }

    private void lookAtFindings(List<String> lines) {
        List<String> told = new ArrayList<>();
        for (String line : lines) {
            Matcher row = FINDING.matcher(line);
            if (row.matches()) {
                told.add(row.group(1) + " " + row.group(2));
            }
        }
        List<String> due = new ArrayList<>();
        for (int k = 1; k <= FINDINGS.length; k++) {
            due.add((LOW - k) + " " + FINDINGS[k - 1]);
        }
        check(told.equals(due), "the findings are told as " + told);
    }

    private void lookForCommand(List<String> lines) throws IOException {
        List<String> commands = blocksOf(lines, "sh");
        check(commands.equals(List.of(".ci/run")), "the commands are " + commands);
        check(Files.isExecutable(Path.of(".ci/run")), ".ci/run can't be run");
        String page = String.join("\n", lines);
        try (var files = Files.list(Path.of("src/test/java"))) {
            files.map(file -> file.getFileName().toString()).filter(name -> name.endsWith("Test.java")).sorted()
                .map(name -> name.replace(".java", ""))
                .forEach(name -> check(page.contains("`" + name + "`"), name + " isn't told of"));
        }
    }
}
