import java.lang.reflect.InvocationTargetException;
import java.lang.reflect.Method;
import java.lang.reflect.Modifier;
import java.util.ArrayList;
import java.util.List;
import java.util.function.Supplier;

/**
 * Every call with every choice of some numbers, the ends of ints among them, on several lands: none throws, and what
 * found() tells is one more just if the answer is a finding.
 */
public final class ExtremesTest extends Edges {
    private static final int[] MANY = {LEAST, -1, 0, 1, 2, 3, 8, 24, 100, 3000, 9999, GREATEST};
    private static final int[] FEW = {LEAST, -1, 0, 1, 3, GREATEST};

    private static int calls = 0;

    private ExtremesTest() {
    }

    public static void main(String[] args) throws ReflectiveOperationException {
        List<Supplier<FreeLances>> lands = new ArrayList<>();
        lands.add(FreeLances::new);
        lands.add(Edges::rich);
        lands.add(Edges::bound);
        for (Method method : FreeLances.class.getDeclaredMethods()) {
            if (Modifier.isPublic(method.getModifiers())) {
                named(method.getName());
                for (Supplier<FreeLances> land : lands) {
                    callAll(method, land);
                }
            }
        }
        System.out.println(calls + " calls with extremes, " + wrong() + " not as due");
        if (wrong() != 0) {
            System.exit(1);
        }
    }

    private static void callAll(Method method, Supplier<FreeLances> land) throws ReflectiveOperationException {
        int parameters = method.getParameterCount();
        int[] values = parameters > 3 ? FEW : MANY;
        int choices = 1;
        for (int i = 0; i < parameters; i++) {
            choices *= values.length;
        }
        for (int choice = 0; choice < choices; choice++) {
            call(method, land.get(), chosen(method, values, choice));
        }
    }

    private static Object[] chosen(Method method, int[] values, int choice) {
        Class<?>[] types = method.getParameterTypes();
        Object[] given = new Object[types.length];
        int left = choice;
        for (int i = 0; i < types.length; i++) {
            int v = values[left % values.length];
            left /= values.length;
            if (types[i] == boolean.class) {
                given[i] = v > 0;
            } else if (types[i] == long.class) {
                given[i] = (long) v;
            } else {
                given[i] = v;
            }
        }
        return given;
    }

    private static void call(Method method, FreeLances x, Object[] given) throws ReflectiveOperationException {
        calls++;
        int before = allFound(x);
        int answer;
        try {
            answer = (Integer) method.invoke(x, given);
        } catch (InvocationTargetException thrown) {
            check(false, List.of(given) + " threw " + thrown.getCause());
            return;
        }
        boolean anyNumber = method.getName().equals("says") || method.getName().equals("voice");
        boolean finding = answer < LOW;
        if (!anyNumber) {
            check(allFound(x) == before + (finding ? 1 : 0), List.of(given) + " answered " + answer);
            check(!finding || answer >= KIND, List.of(given) + " answered " + answer + ", which is no finding");
        }
    }

    private static int allFound(FreeLances x) {
        int all = 0;
        for (int k = 1; k <= 5; k++) {
            all += x.found(k);
        }
        return all;
    }
}
