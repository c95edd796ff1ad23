import java.lang.reflect.Method;
import java.lang.reflect.Modifier;
import java.nio.file.Files;
import java.nio.file.Path;
import java.util.regex.Matcher;
import java.util.regex.Pattern;

/** What README.md tells of the class: its example's answers, and that no call is left out. */
public final class ReadmeTest {
    private static final Pattern TEXT = Pattern.compile("\"([^\"]*)\"\\.toCharArray");
    private static final Pattern CALL = Pattern.compile("(?m)^x\\.(\\w+)\\(([^)]*)\\);(.*)$");
    private static final Pattern ANSWER = Pattern.compile(" +// (-?\\d+)\\b.*");
    private static int wrong = 0;

    private static void must(boolean holds, String what) {
        if (!holds) {
            wrong++;
            System.out.println("not so: " + what);
        }
    }

    public static void main(String[] args) throws Exception {
        if (args.length == 0) {
            System.out.println("the source's path is not told");
            System.exit(1);
        }
        Path root = Path.of(args[0]).toAbsolutePath().normalize().getParent().getParent().getParent().getParent();
        String readme = Files.readString(root.resolve("README.md"));
        example(readme);
        everyCall(readme);
        System.out.println(wrong == 0 ? "README.md tells it as it is" : wrong + " things are not as told");
        if (wrong != 0) {
            System.exit(1);
        }
    }

    private static void example(String readme) throws Exception {
        SpinTops x = new SpinTops();
        Matcher text = TEXT.matcher(readme);
        must(text.find(), "a text is typed");
        for (char letter : text.group(1).toCharArray()) {
            x.type(letter);
        }
        Matcher call = CALL.matcher(readme);
        int calls = 0;
        while (call.find()) {
            calls++;
            Matcher answer = ANSWER.matcher(call.group(3));
            if (!answer.matches()) {
                must(false, "an answer stands behind " + call.group());
                continue;
            }
            String got = String.valueOf(answerOf(x, call.group(1), call.group(2)));
            must(got.equals(answer.group(1)), call.group() + " (it answered " + got + ")");
        }
        must(calls > 0, "there are calls in the example");
    }

    private static Object answerOf(SpinTops x, String name, String numbers) throws Exception {
        String[] parts = numbers.isEmpty() ? new String[0] : numbers.split(", ");
        Object[] values = new Object[parts.length];
        for (int i = 0; i < parts.length; i++) {
            values[i] = Integer.valueOf(parts[i]);
        }
        for (Method method : SpinTops.class.getMethods()) {
            if (method.getName().equals(name) && method.getParameterCount() == parts.length) {
                return method.invoke(x, values);
            }
        }
        return "nothing: there is no such call";
    }

    private static void everyCall(String readme) {
        for (Method method : SpinTops.class.getDeclaredMethods()) {
            if (Modifier.isPublic(method.getModifiers())) {
                must(readme.contains("`" + method.getName() + "("), "README.md tells of " + method.getName());
            }
        }
    }
}
