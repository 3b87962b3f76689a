import java.lang.reflect.Method;
import java.lang.reflect.Modifier;
import java.util.Arrays;
import java.util.Comparator;
import java.util.Set;
import java.util.TreeSet;
import java.util.regex.Matcher;
import java.util.regex.Pattern;

/**
 * Runs every test of an edge, each a method named after its promise or its point, tells each by its name, and looks
 * that no promise and no point is without one.
 */
public final class EdgesTest {
    private static final Class<?>[] ALL = {
        PointEdges.class, TownEdges.class, LanceEdges.class, StatuteEdges.class, BondEdges.class, PayEdges.class,
        MusterEdges.class, PlanEdges.class, DayEdges.class, SheetEdges.class, ToldEdges.class,
    };
    private static final Pattern NAME = Pattern.compile("(promise|point)(\\d+)_[a-zA-Z0-9]+");
    private static final int PROMISES = 55;
    private static final int POINTS = 9;

    private static int passed = 0;
    private static int failed = 0;

    private EdgesTest() {
    }

    public static void main(String[] args) throws ReflectiveOperationException {
        Set<String> told = new TreeSet<>();
        for (Class<?> one : ALL) {
            runAll(one, told);
        }
        lookFor("promise", PROMISES, told);
        lookFor("point", POINTS, told);
        System.out.println(Edges.asked() + " answers of edges were looked at");
        System.out.println(passed + " passed, " + failed + " failed");
        if (failed != 0) {
            System.exit(1);
        }
    }

    private static void runAll(Class<?> one, Set<String> told) throws ReflectiveOperationException {
        Method[] methods = one.getDeclaredMethods();
        Arrays.sort(methods, Comparator.comparingInt(EdgesTest::numberOf).thenComparing(Method::getName));
        for (Method method : methods) {
            if (Modifier.isPrivate(method.getModifiers())) {
                continue;
            }
            Matcher name = NAME.matcher(method.getName());
            if (name.matches()) {
                told.add(name.group(1) + name.group(2));
                run(method);
            } else {
                tell(false, method.getName() + " is named after no promise and no point");
            }
        }
    }

    private static int numberOf(Method method) {
        Matcher name = NAME.matcher(method.getName());
        return name.matches() ? Integer.parseInt(name.group(2)) : 0;
    }

    private static void run(Method method) throws ReflectiveOperationException {
        Edges.named(method.getName());
        int wrong = Edges.wrong();
        int asked = Edges.asked();
        method.invoke(null);
        tell(Edges.wrong() == wrong && Edges.asked() > asked, method.getName());
    }

    private static void lookFor(String what, int count, Set<String> told) {
        for (int i = 1; i <= count; i++) {
            if (!told.contains(what + i)) {
                tell(false, what + i + " has no test of an edge");
            }
        }
    }

    private static void tell(boolean holds, String what) {
        passed += holds ? 1 : 0;
        failed += holds ? 0 : 1;
        System.out.println((holds ? "  ok     " : "  FAILED ") + what);
    }
}
