import java.lang.management.ManagementFactory;
import java.lang.reflect.Constructor;
import java.lang.reflect.Field;
import java.lang.reflect.Method;
import java.lang.reflect.Modifier;
import java.nio.file.Files;
import java.nio.file.Path;
import java.util.Arrays;
import java.util.HashSet;
import java.util.Set;
import java.util.TreeSet;
import java.util.regex.Matcher;
import java.util.regex.Pattern;

/** The public face, some rules of LANGUAGE.md that can be read off the file, and what calls make. */
public final class RulesTest {
    private static final String FACE = "row(int,int) lay(int,int,int) tear(int) copy(int,int,int,int,int)"
            + " mean(int) table(int,int) put(int,int,int) set(int,int,int,int,boolean) drop(int) at(int,int,int)"
            + " told(int,int) mark(int,int) times(int,int,int) residues(int,int) bordered(int,int)"
            + " four(int,int,int,int,int) turn(int,int,int) swap(int,boolean,int,int) flip(int) normal(int)"
            + " worth(int) balanced(int) common(int,int) profile(int,int,int) mayBeLike(int,int) like(int,int)"
            + " excess(int) peak(int) block(int,int) echo(int,int,boolean) side(int) cancels(int,int,boolean)"
            + " pairs(int) leastSide(int,int) longer(int,int,int,int) switched(int,int) odd(int) alike(int,int)"
            + " fewest(int) even(int,int) own(int,int) form(int,int) weight(int) long:worthTold() asked()"
            + " long:upper() long:lower() count(int) finding() findings(int) long:digest()";
    private static final String[] RULED_OUT = {"throw", "try", "catch", "synchronized", "assert", "package",
        "import", "protected", "transient", "volatile", "native", "hashCode", "toString", "equals", "Object",
        "java", "double", "float", "class SignSquares extends"};
    private static int wrong = 0;

    public static void main(String[] args) throws Exception {
        face();
        hidden(SignSquares.class);
        for (Class<?> inside : SignSquares.class.getDeclaredClasses()) {
            hold(inside.getSimpleName() + " is static", Modifier.isStatic(inside.getModifiers()));
            hold(inside.getSimpleName() + " is not public", !Modifier.isPublic(inside.getModifiers()));
            hidden(inside);
        }
        words();
        callsMakeNothing();
        System.out.println(wrong == 0 ? "all rules hold" : wrong + " rules are broken");
        if (wrong != 0) {
            System.exit(1);
        }
    }

    private static void hold(String what, boolean holds) {
        if (!holds) {
            wrong++;
            System.out.println("not so: " + what);
        }
    }

    private static void face() {
        Set<String> due = new TreeSet<>();
        for (String method : FACE.split(" ")) {
            due.add(method.startsWith("long:") ? method : "int:" + method);
        }
        Set<String> there = new TreeSet<>();
        for (Method method : SignSquares.class.getDeclaredMethods()) {
            if (Modifier.isPublic(method.getModifiers())) {
                String types = Arrays.toString(method.getParameterTypes());
                there.add(method.getReturnType() + ":" + method.getName() + "("
                        + types.substring(1, types.length() - 1).replace(" ", "") + ")");
                hold(method.getName() + " is no static method", !Modifier.isStatic(method.getModifiers()));
            }
        }
        hold("the public methods are " + due + ", not " + there, due.equals(there));
        Constructor<?>[] made = SignSquares.class.getDeclaredConstructors();
        hold("one constructor, public, of nothing", made.length == 1 && made[0].getParameterCount() == 0
                && Modifier.isPublic(made[0].getModifiers()));
        hold("the class is public and final", Modifier.isPublic(SignSquares.class.getModifiers())
                && Modifier.isFinal(SignSquares.class.getModifiers()));
        Set<String> constants = new TreeSet<>();
        for (Field field : SignSquares.class.getDeclaredFields()) {
            if (Modifier.isPublic(field.getModifiers())) {
                constants.add(field.getName());
            }
        }
        hold("the constants", constants.equals(
                new TreeSet<>(Arrays.asList("BAD", "FULL", "FINDING", "STATE", "SPENT", "NONE"))));
    }

    /** What is not of the face is private in the outer class, bears no name of it, and is small. */
    private static void hidden(Class<?> some) {
        boolean outer = some == SignSquares.class;
        Set<String> names = new HashSet<>();
        for (Method method : SignSquares.class.getDeclaredMethods()) {
            if (Modifier.isPublic(method.getModifiers())) {
                names.add(method.getName());
            }
        }
        for (Method method : some.getDeclaredMethods()) {
            hold(method + " has seven parameters at most", method.getParameterCount() <= 7);
            if (!outer || !Modifier.isPublic(method.getModifiers())) {
                hold(method + " has a name of its own", !names.contains(method.getName()));
                hold(method + " is private", !outer || Modifier.isPrivate(method.getModifiers()));
            }
        }
        int fields = 0;
        for (Field field : some.getDeclaredFields()) {
            boolean isStatic = Modifier.isStatic(field.getModifiers());
            fields += isStatic ? 0 : 1;
            hold(field + " is final", !isStatic || Modifier.isFinal(field.getModifiers()));
            hold(field + " is private", !outer || Modifier.isPublic(field.getModifiers())
                    || Modifier.isPrivate(field.getModifiers()));
        }
        hold(some + " has twenty fields at most", fields <= 20);
    }

    private static void words() throws Exception {
        String file = Files.readString(Path.of("src/main/java/SignSquares.java"));
        hold("signs 1 to 127", file.chars().allMatch(c -> c < 128));
        String code = file.replaceAll("(?s)/\\*.*?\\*/", " ").replaceAll("//[^\n]*", " ");
        for (String word : RULED_OUT) {
            hold("no " + word, !code.matches("(?s).*\\b" + word + "\\b.*"));
        }
        hold("no lambda", !code.contains("->"));
        hold("no method reference", !code.contains("::"));
        hold("no Exact", !code.contains("Exact"));
        hold("no static block", !code.matches("(?s).*\\bstatic\\s*\\{.*"));
        library(code);
        int lines = 0;
        for (String line : file.split("\n")) {
            lines = line.matches(" {4,8}\\S.*\\) \\{") ? 0 : lines + 1;
            hold("methods of sixty lines at most", lines <= 60 || line.isBlank());
            lines = line.matches(" {4,8}\\}") ? 0 : lines;
        }
    }

    /** Of the library that LANGUAGE.md lists, the class uses these alone. */
    private static void library(String code) {
        Set<String> used = new TreeSet<>();
        Matcher use = Pattern.compile("\\b(?!SignSquares\\b)([A-Z][a-z]\\w*)\\s*\\.\\s*(\\w+)").matcher(code);
        while (use.find()) {
            used.add(use.group(1) + "." + use.group(2));
        }
        used.removeAll(Set.of("Integer.bitCount", "Math.abs", "Math.max", "System.arraycopy"));
        hold("no library but what is listed: " + used, used.isEmpty());
        hold("twelve classes at most", code.split("\\bclass\\b").length <= 13);
    }

    /** All calls of a run live in one room, so no call may make objects or arrays. */
    private static void callsMakeNothing() {
        com.sun.management.ThreadMXBean threads =
                (com.sun.management.ThreadMXBean) ManagementFactory.getThreadMXBean();
        long thread = Thread.currentThread().getId();
        SignSquares x = new SignSquares();
        everyCall(x);
        long before = threads.getThreadAllocatedBytes(thread);
        // With the one ahead of it, still no more calls than an object is made for.
        for (int round = 0; round < 6; round++) {
            everyCall(x);
        }
        long made = threads.getThreadAllocatedBytes(thread) - before;
        hold("calls make nothing, but made " + made + " bytes", made < 4096);
    }

    private static long everyCall(SignSquares x) {
        long all = x.bordered(0, 11) + x.residues(1, 11) + x.residues(2, 5) + x.table(3, 12) + x.table(4, 2);
        all += x.row(0, 1) + x.row(1, 1) + x.lay(1, 0, -1) + x.longer(0, 1, 2, 3) + x.row(4, 24);
        all += x.copy(4, 0, 4, 1, 20) + x.mean(4) + x.put(4, 1, 3) + x.set(4, 0, 0, 1, true) + x.at(0, 1, 1);
        all += x.told(0, 4) + x.mark(0, 1) + x.times(4, 4, 5) + x.four(6, 0, 0, 0, 1) + x.turn(0, 77, 99);
        all += x.swap(0, true, 1, 2) + x.swap(0, false, 1, 2) + x.flip(0) + x.normal(0) + x.worth(0);
        all += x.balanced(0) + x.common(0, 77) + x.profile(0, 4, 4) + x.mayBeLike(0, 3) + x.like(5, 6);
        all += x.excess(0) + x.peak(0) + x.block(0, 3) + x.echo(4, 3, true) + x.side(4);
        all += x.cancels(2, 3, false) + x.pairs(8) + x.leastSide(12, 5) + x.switched(2, 5) + x.odd(2);
        all += x.alike(2, 2) + x.fewest(2) + x.residues(2, 5) + x.even(2, 2) + x.own(3, 0) + x.form(1, 3);
        all += x.weight(1) + x.worthTold() + x.asked() + x.upper() + x.lower() + x.count(1) + x.finding();
        return all + x.findings(1) + x.digest() + x.tear(0) + x.drop(0) + x.tear(9) + x.drop(0);
    }
}
