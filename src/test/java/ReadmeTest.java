import java.lang.reflect.Method;
import java.lang.reflect.Modifier;
import java.nio.file.Files;
import java.nio.file.Path;
import java.util.TreeSet;
import java.util.regex.Matcher;
import java.util.regex.Pattern;

/** The examples of README.md: each call answers what stands behind it, and every call is shown. */
public final class ReadmeTest {
    private static final Pattern BLOCK = Pattern.compile("```java\n(.*?)```", Pattern.DOTALL);
    private static final Pattern CALL = Pattern.compile("x\\.(\\w+)\\(([^)]*)\\); +// (-?\\d+)(:.*)?");
    private static final String BEGIN = "SignSquares x = new SignSquares();";
    private static int wrong = 0;

    public static void main(String[] args) throws Exception {
        TreeSet<String> missing = new TreeSet<>();
        for (Method method : SignSquares.class.getDeclaredMethods()) {
            if (Modifier.isPublic(method.getModifiers())) {
                missing.add(method.getName());
            }
        }
        Matcher block = BLOCK.matcher(Files.readString(Path.of("README.md")));
        while (block.find()) {
            SignSquares x = new SignSquares();
            for (String line : block.group(1).split("\n")) {
                if (!line.equals(BEGIN)) {
                    missing.remove(answered(x, line));
                }
            }
        }
        if (!missing.isEmpty()) {
            tell("no example shows " + missing);
        }
        System.out.println(wrong == 0 ? "all examples are as told" : wrong + " lines are wrong");
        if (wrong != 0) {
            System.exit(1);
        }
    }

    private static void tell(String what) {
        wrong++;
        System.out.println(what);
    }

    /** The name of the call in this line, which is made and must answer as told. */
    private static String answered(SignSquares x, String line) throws Exception {
        Matcher call = CALL.matcher(line);
        if (!call.matches()) {
            tell("no call with its answer: " + line);
            return "";
        }
        String[] given = call.group(2).isEmpty() ? new String[0] : call.group(2).split(", ");
        for (Method method : SignSquares.class.getDeclaredMethods()) {
            if (method.getName().equals(call.group(1)) && method.getParameterCount() == given.length) {
                Object answer = method.invoke(x, values(method, given));
                if (((Number) answer).longValue() != Long.parseLong(call.group(3))) {
                    tell("answered " + answer + ": " + line);
                }
                return call.group(1);
            }
        }
        tell("there is no such call: " + line);
        return "";
    }

    private static Object[] values(Method method, String[] given) {
        Object[] values = new Object[given.length];
        for (int i = 0; i < given.length; i++) {
            if (method.getParameterTypes()[i] == boolean.class) {
                values[i] = Boolean.valueOf(given[i]);
            } else {
                values[i] = Integer.valueOf(given[i]);
            }
        }
        return values;
    }
}
