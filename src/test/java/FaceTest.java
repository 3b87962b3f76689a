import java.io.IOException;
import java.lang.reflect.Constructor;
import java.lang.reflect.Field;
import java.lang.reflect.Method;
import java.lang.reflect.Modifier;
import java.nio.file.Files;
import java.nio.file.Path;
import java.util.ArrayList;
import java.util.Arrays;
import java.util.List;
import java.util.Set;
import java.util.TreeSet;
import java.util.regex.Matcher;
import java.util.regex.Pattern;

/** The public face is the document's, and the source keeps to what LANGUAGE.md lets a text search see. */
public final class FaceTest {
    private static final String[] FACE = {
        "town(int,int)", "road(int,int,int)", "far(int,int)", "townIs(int,int)", "wall(int,int,int)",
        "harvest(int,int)", "company(int,int,int)", "march(int,int)", "buy(int,int)", "about(int,int)",
        "lance(int,int,int)", "lanceIs(int,int)", "over(int,int)", "take(int,int)", "feed(long,int)",
        "statute(int,int)", "force(int,int)", "says(int,int,int,int)", "contract(int,int,int,int)",
        "renew(int,int,int)", "advance(int,int)", "truce(int,int,int,int)", "safe(int,int,int,int,int)",
        "ransom(int,int)", "as(int,int)", "bondIs(int,int)", "stop(int,int)", "pay(int,int)",
        "serves(int,int)", "clash(int,int)", "free(int,boolean)", "muster(int,int)", "twice(int,int,int)",
        "shown(int)", "hold(int,int,int,boolean)", "ask(int,int,int)", "parts(int,int,int)", "share(int)",
        "winter(int,int,int)", "wintering(int)", "hiring(int,int)", "days(int)", "ahead(int,int,int)",
        "voice(int,int,int)", "trace(int)", "sheet(int,int,int)", "put(int,int,int)",
        "move(int,int,int,int,int)", "image()", "restore()", "tell(int)", "judge()", "count(int)", "found(int)",
    };

    /** What the source uses of the library; all of it stands in rule 4. */
    private static final Set<String> LIBRARY =
        Set.of("Math.abs", "Math.max", "Math.min", "Integer.bitCount", "System.arraycopy");

    private static int wrong = 0;

    private FaceTest() {
    }

    public static void main(String[] args) throws IOException {
        checkFace();
        checkInside();
        checkSource(Files.readString(Path.of("src/main/java/FreeLances.java")));
        System.out.println(wrong == 0 ? "the face and the form are as due" : wrong + " things are not as due");
        if (wrong != 0) {
            System.exit(1);
        }
    }

    private static void check(boolean holds, String what) {
        if (!holds) {
            wrong++;
            System.out.println(what);
        }
    }

    private static void checkFace() {
        Set<String> due = new TreeSet<>(Arrays.asList(FACE));
        Set<String> found = new TreeSet<>();
        for (Method method : FreeLances.class.getDeclaredMethods()) {
            int modifiers = method.getModifiers();
            if (Modifier.isPublic(modifiers)) {
                found.add(signature(method));
                check(method.getReturnType() == int.class, method + " does not answer an int");
                check(!Modifier.isStatic(modifiers), method + " is static");
            } else {
                check(Modifier.isPrivate(modifiers), method + " is neither public nor private");
                check(!names().contains(method.getName()), method + " bears the name of a public method");
            }
        }
        check(found.equals(due), "the public methods are " + found);
        Constructor<?>[] made = FreeLances.class.getDeclaredConstructors();
        check(made.length == 1 && Modifier.isPublic(made[0].getModifiers()) && made[0].getParameterCount() == 0,
            "the constructors are " + Arrays.toString(made));
        int modifiers = FreeLances.class.getModifiers();
        check(Modifier.isPublic(modifiers) && Modifier.isFinal(modifiers), "the class is not public and final");
        for (Field field : FreeLances.class.getDeclaredFields()) {
            check(Modifier.isPrivate(field.getModifiers()), field + " is not private");
        }
    }

    private static Set<String> names() {
        Set<String> names = new TreeSet<>();
        for (String signature : FACE) {
            names.add(signature.substring(0, signature.indexOf('(')));
        }
        return names;
    }

    private static String signature(Method method) {
        List<String> types = new ArrayList<>();
        for (Class<?> type : method.getParameterTypes()) {
            types.add(type.getName());
        }
        return method.getName() + "(" + String.join(",", types) + ")";
    }

    private static void checkInside() {
        Class<?>[] inside = FreeLances.class.getDeclaredClasses();
        check(inside.length <= 12, "there are " + inside.length + " classes inside");
        List<Class<?>> all = new ArrayList<>(Arrays.asList(inside));
        all.add(FreeLances.class);
        for (Class<?> one : all) {
            check(one == FreeLances.class || Modifier.isStatic(one.getModifiers()), one + " is not static");
            int fields = 0;
            for (Field field : one.getDeclaredFields()) {
                boolean fixed = Modifier.isStatic(field.getModifiers());
                fields += fixed ? 0 : 1;
                check(!fixed || Modifier.isFinal(field.getModifiers()), field + " is static and not final");
            }
            check(fields <= 20, one + " has " + fields + " fields");
            for (Method method : one.getDeclaredMethods()) {
                check(method.getParameterCount() <= 7, method + " takes too many parameters");
                check(one == FreeLances.class || !names().contains(method.getName()),
                    method + " inside bears the name of a public method");
            }
        }
    }

    private static void checkSource(String source) {
        String code = source.replaceAll("(?s)/\\*.*?\\*/", " ").replaceAll("//[^\n]*", " ");
        String[] ruledOut = {
            "\\bthrow\\b", "\\bthrows\\b", "\\btry\\b", "\\bcatch\\b", "\\bsynchronized\\b", "\\bassert\\b",
            "->", "::", "\\bimport\\b", "\\bpackage\\b", "\\bvolatile\\b", "\\bnative\\b", "Exact\\b",
            "\\bprotected\\b", "\\bThread\\b", "\\bRandom\\b", "\\bSystem\\.(?!arraycopy)", "\\bstatic\\s*\\{",
        };
        for (String word : ruledOut) {
            check(!Pattern.compile(word).matcher(code).find(), "the source has what " + word + " stands for");
        }
        Matcher library = Pattern.compile("\\b(Math|Integer|Long|System|Arrays|String|List)\\.(\\w+)").matcher(code);
        while (library.find()) {
            check(LIBRARY.contains(library.group()), library.group() + " is not among what the source may use");
        }
        for (int i = 0; i < source.length(); i++) {
            check(source.charAt(i) < 128, "a sign above 127 stands at " + i);
        }
        checkLengths(code);
    }

    /** Methods are indented by 4 (in the class) or 8 (inside), and end with a brace of their own. */
    private static void checkLengths(String code) {
        String[] lines = code.split("\n", -1);
        Pattern head = Pattern.compile("^( {4}| {8})[a-zA-Z].*\\) \\{$");
        for (int i = 0; i < lines.length; i++) {
            if (!head.matcher(lines[i]).matches()) {
                continue;
            }
            String end = lines[i].startsWith("        ") ? "        }" : "    }";
            int j = i;
            while (j < lines.length && !lines[j].equals(end)) {
                j++;
            }
            check(j - i <= 60, "a method of " + (j - i) + " lines stands at line " + (i + 1));
        }
    }
}
