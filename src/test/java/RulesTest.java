import java.lang.reflect.Constructor;
import java.lang.reflect.Field;
import java.lang.reflect.Method;
import java.lang.reflect.Modifier;
import java.nio.file.Files;
import java.nio.file.Path;
import java.util.ArrayList;
import java.util.Arrays;
import java.util.List;
import java.util.Set;
import java.util.TreeSet;
import java.util.regex.Matcher;
import java.util.regex.Pattern;

/** The face of the class, and those rules of LANGUAGE.md that can be read off its text. */
public final class RulesTest {
    private static final Set<String> METHODS = new TreeSet<>(Arrays.asList(
        "int type(int)", "int clear()", "int tray()", "int top(int,int)", "int at(int)", "int now(int)",
        "int beats()", "int whips(int,int)", "int tilts(int)", "int sets(int,int)", "int undo()",
        "int stand(int)", "int whip(int,int)", "int row(int,int)", "int odds(int,int,int,int)",
        "int sees(int,int,int)", "int forget()", "int drags(int)", "int look(int)", "int rate(int,int)",
        "int keep(int)", "int back(int)", "int count(int)", "long trace()"));
    private static final Set<String> CONSTANTS = new TreeSet<>(Arrays.asList("BAD", "STATE", "FULL", "NONE", "NO"));
    private static int wrong = 0;

    private static void must(boolean holds, String what) {
        if (!holds) {
            wrong++;
            System.out.println("not so: " + what);
        }
    }

    public static void main(String[] args) throws Exception {
        face();
        nested();
        if (args.length > 0) {
            text(Files.readString(Path.of(args[0])));
        } else {
            must(false, "the source's path is told");
        }
        System.out.println(wrong == 0 ? "the rules are kept" : wrong + " rules are not kept");
        if (wrong != 0) {
            System.exit(1);
        }
    }

    private static void face() {
        Class<?> c = SpinTops.class;
        must(Modifier.isPublic(c.getModifiers()) && Modifier.isFinal(c.getModifiers()), "public and final");
        Set<String> open = new TreeSet<>();
        for (Method m : c.getDeclaredMethods()) {
            if (Modifier.isPublic(m.getModifiers()) && !Modifier.isStatic(m.getModifiers())) {
                open.add(signature(m));
            } else {
                must(Modifier.isPrivate(m.getModifiers()), m + " is private");
                must(!isNameOfFace(m.getName()), m + " does not bear the name of a public one");
            }
        }
        must(open.equals(METHODS), "the methods are the document's: " + open);
        Set<String> constants = new TreeSet<>();
        for (Field f : c.getDeclaredFields()) {
            int how = f.getModifiers();
            if (Modifier.isPublic(how)) {
                constants.add(f.getName());
                must(Modifier.isStatic(how) && Modifier.isFinal(how) && f.getType() == int.class, f + " is a constant");
            } else {
                must(Modifier.isPrivate(how), f + " is private");
            }
        }
        must(constants.equals(CONSTANTS), "the constants are the document's: " + constants);
        Constructor<?>[] made = c.getDeclaredConstructors();
        must(made.length == 1 && Modifier.isPublic(made[0].getModifiers()) && made[0].getParameterCount() == 0,
            "one public constructor");
    }

    private static void nested() {
        Class<?>[] inside = SpinTops.class.getDeclaredClasses();
        must(inside.length < 12, "some twelve classes at most");
        for (Class<?> c : inside) {
            must(Modifier.isStatic(c.getModifiers()) && !Modifier.isPublic(c.getModifiers()), c + " is static");
            int fields = 0;
            for (Field f : c.getDeclaredFields()) {
                boolean fixed = Modifier.isStatic(f.getModifiers());
                must(!fixed || Modifier.isFinal(f.getModifiers()), f + " is final if static");
                fields += fixed ? 0 : 1;
            }
            must(fields <= 20, c + " has some twenty fields at most");
            for (Method m : c.getDeclaredMethods()) {
                must(m.getParameterCount() <= 7, m + " takes seven parameters at most");
                must(!isNameOfFace(m.getName()), m + " does not bear the name of a public one");
            }
        }
    }

    private static String signature(Method m) {
        List<String> types = new ArrayList<>();
        for (Class<?> p : m.getParameterTypes()) {
            types.add(p.getName());
        }
        return m.getReturnType().getName() + " " + m.getName() + "(" + String.join(",", types) + ")";
    }

    private static boolean isNameOfFace(String name) {
        for (String method : METHODS) {
            if (method.contains(" " + name + "(")) {
                return true;
            }
        }
        return false;
    }

    /** LANGUAGE.md 11: some sixty lines; a method begins and ends at the same indent. */
    private static void methodsAreShort(String code) {
        Matcher m = Pattern.compile("(?ms)^( +)(?:public|private)[^;={}]*\\([^;{}]*\\) \\{\n.*?^\\1\\}").matcher(code);
        int methods = 0;
        while (m.find()) {
            methods++;
            must(m.group().lines().count() <= 60, "short: " + m.group().lines().findFirst().orElse(""));
        }
        must(methods > 24, "methods were found: " + methods);
    }

    private static void text(String source) {
        String code = source.replaceAll("(?s)/\\*.*?\\*/", "").replaceAll("//[^\n]*", "");
        Matcher m = Pattern.compile("\\b(throw|throws|try|catch|finally|synchronized|assert|import|package|"
            + "Object|Random|Thread|System\\.(?!arraycopy)\\w+|\\w+Exact|toString|hashCode)\\b|->|::|\"").matcher(code);
        while (m.find()) {
            must(false, "the code is without " + m.group());
        }
        methodsAreShort(code);
        must(code.chars().allMatch(sign -> sign < 128), "signs of 1 to 127 alone");
    }
}
