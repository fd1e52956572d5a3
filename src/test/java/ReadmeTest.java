import java.io.IOException;
import java.lang.reflect.Method;
import java.lang.reflect.Modifier;
import java.nio.file.Files;
import java.nio.file.Path;
import java.util.ArrayList;
import java.util.List;
import java.util.Set;
import java.util.TreeSet;
import java.util.regex.Matcher;
import java.util.regex.Pattern;

/** That README.md names all that the class has, and that its calls answer what it says. */
public final class ReadmeTest extends Asked {
    private static String page;
    private static List<String> told;
    private static int next = 0;

    public static void main(String[] args) throws IOException {
        page = Files.readString(Path.of("README.md"));
        told = linesOfCalls();
        namesEachMethod();
        namesTheConstant();
        namesEachTest();
        notesOfMinutes();
        sum();
    }

    private static List<String> linesOfCalls() {
        List<String> lines = new ArrayList<>();
        for (String line : page.split("\n")) if (line.startsWith("late.")) lines.add(line);
        return lines;
    }

    private static void namesEachMethod() {
        promise = "README, methods";
        Set<String> named = new TreeSet<>();
        Matcher m = Pattern.compile("\n- `(\\w+ \\w+)\\(([^)]*)\\)`: ").matcher(page);
        while (m.find()) named.add(m.group(1) + "(" + m.group(2).replaceAll(" \\w+(?=,|$)", "").replace(" ", "") + ")");
        int methods = 0;
        for (Method method : LateMinutes.class.getDeclaredMethods()) {
            if (!Modifier.isPublic(method.getModifiers())) continue;
            StringBuilder form = new StringBuilder(method.getReturnType() + " " + method.getName() + "(");
            String comma = "";
            for (Class<?> type : method.getParameterTypes()) {
                form.append(comma).append(type);
                comma = ",";
            }
            yes(form + ") is named", named.contains(form + ")"));
            methods++;
        }
        due("methods named", named.size(), methods);
        yes("the constructor is named", page.contains("\n- `LateMinutes()`: "));
    }

    private static void namesTheConstant() {
        promise = "README, constants";
        yes("NONE is named", page.contains("`NONE = " + LateMinutes.NONE + "`"));
    }

    private static void namesEachTest() throws IOException {
        promise = "README, tests";
        yes("how to run them", page.contains("\n.ci/run\n") && Files.exists(Path.of(".ci/run")));
        try (var files = Files.list(Path.of("src/test/java"))) {
            for (Path file : (Iterable<Path>) files::iterator) {
                String name = file.getFileName().toString().replace(".java", "");
                yes(name + " is named", page.contains("`" + name + "`"));
            }
        }
    }

    /** The next line of a call on the page is this one, with this answer behind it. */
    private static void says(String call, Object answer) {
        String line = next < told.size() ? told.get(next) : "";
        next++;
        String form = Pattern.quote("late." + call + ";") + " +// " + answer + "(?![0-9]).*";
        yes(call + " with " + answer + " where the page has: " + line, line.matches(form));
    }

    private static void notesOfMinutes() {
        promise = "README, calls";
        LateMinutes late = new LateMinutes();
        says("feed(0x6f772877, 0x3e302900, 0, 0, 0)", late.feed(0x6f772877, 0x3e302900, 0, 0, 0));
        says("law(7)", late.law(7));
        says("meeting(0, 600, 3)", late.meeting(0, 600, 3));
        says("came(0, 0, 595)", late.came(0, 0, 595));
        says("came(0, 1, 615)", late.came(0, 1, 615));
        says("begins(0)", late.begins(0));
        says("keeps(0, 1, 0)", late.keeps(0, 1, 0));
        says("settle(0)", late.settle(0));
        says("owed(1, 0)", late.owed(1, 0));
        says("take(0, 10, 9)", late.take(0, 10, 9));
        says("cut(0, 2)", late.cut(0, 2));
        says("hand(1, 2)", late.hand(1, 2));
        says("takings()", late.takings());
        says("came(0, 1, 610)", late.came(0, 1, 610));
        says("keeps(0, 1, 1)", late.keeps(0, 1, 1));
        whenToSetOut(late);
        lawWithFault(late);
        due("calls on the page", told.size(), next);
    }

    private static void whenToSetOut(LateMinutes late) {
        says("end(0, 20, 3)", late.end(0, 20, 3));
        says("end(0, 40, 1)", late.end(0, 40, 1));
        says("bridge(1, 4, 30)", late.bridge(1, 4, 30));
        says("crosses(0, true)", late.crosses(0, true));
        says("lateIf(0, 30, 0)", late.lateIf(0, 30, 0));
        says("lateIf(0, 30, 1)", late.lateIf(0, 30, 1));
        says("cost(0, 0, 30, 5)", late.cost(0, 0, 30, 5));
        says("out(0, 0, 5)", late.out(0, 0, 5));
    }

    private static void lawWithFault(LateMinutes late) {
        says("feed(0x6f77283e, 0, 0, 0, 0)", late.feed(0x6f77283e, 0, 0, 0, 0));
        says("law(4)", late.law(4));
        says("count(4)", late.count(4));
        says("count(3)", late.count(3));
    }
}
