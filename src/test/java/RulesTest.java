import java.io.IOException;
import java.lang.reflect.Field;
import java.lang.reflect.Method;
import java.lang.reflect.Modifier;
import java.nio.file.Files;
import java.nio.file.Path;
import java.util.ArrayList;
import java.util.List;
import java.util.Set;
import java.util.TreeSet;
import java.util.regex.Matcher;
import java.util.regex.Pattern;

/** What can be seen of the rules of LANGUAGE.md from outside: the face, the classes, forbidden words. */
public final class RulesTest {
    private static final List<String> FACE = List.of("boolean now(int)", "boolean worth(int,int,int)",
        "int meeting(int,int,int)", "boolean came(int,int,int)", "int feed(int,int,int,int,int)", "int law(int)",
        "int begins(int)", "int keeps(int,int,int)", "int kept(int,int,int)", "int owes(int,int,int,int)",
        "int chain(int,int,int,int)", "int settle(int)", "int noteIs(int,int)", "boolean hand(int,int)",
        "int cut(int,int)", "int take(int,int,int)", "int owed(int,int)", "long called(int,int)", "int round()",
        "int takings()", "int end(int,int,int)", "boolean bridge(int,int,int)", "boolean crosses(int,boolean)",
        "int lateIf(int,int,int)", "long hang(int,int,int)", "long cost(int,int,int,int)", "int out(int,int,int)",
        "long two(int,int,int,int,int,int)", "int outTwo(int,int,int,int,int)", "int rest(int,int,int)", "int lost()",
        "boolean seed(int)", "int draw(int,int)", "int check(int)", "int count(int)");

    private static int wrong = 0;

    public static void main(String[] args) throws IOException {
        checkFace();
        checkClasses();
        checkWords();
        checkLengths();
        checkRecursion();
        System.out.println(wrong == 0 ? "the rules that can be seen hold" : wrong + " rules are broken");
        if (wrong != 0) System.exit(1);
    }

    private static void mind(boolean holds, String what) {
        if (holds) return;
        wrong++;
        System.out.println(what);
    }

    private static void checkFace() {
        Set<String> face = new TreeSet<>();
        for (Method m : LateMinutes.class.getDeclaredMethods()) {
            if (Modifier.isPrivate(m.getModifiers())) continue;
            mind(Modifier.isPublic(m.getModifiers()), "not private: " + m);
            StringBuilder b = new StringBuilder(m.getReturnType() + " " + m.getName() + "(");
            for (Class<?> c : m.getParameterTypes()) b.append(b.charAt(b.length() - 1) == '(' ? "" : ",").append(c);
            face.add(b + ")");
        }
        mind(face.equals(new TreeSet<>(FACE)), "the face is " + face);
        for (Field f : LateMinutes.class.getDeclaredFields()) {
            mind(Modifier.isPrivate(f.getModifiers()) || f.getName().equals("NONE"), "not private: " + f);
        }
        mind(Modifier.isFinal(LateMinutes.class.getModifiers()), "the class is not final");
    }

    private static void checkClasses() {
        List<Class<?>> all = new ArrayList<>(List.of(LateMinutes.class.getDeclaredClasses()));
        mind(all.size() <= 12, all.size() + " classes inside");
        Set<String> names = new TreeSet<>();
        for (String s : FACE) names.add(s.substring(s.indexOf(' ') + 1, s.indexOf('(')));
        all.add(LateMinutes.class);
        for (Class<?> c : all) {
            if (c != LateMinutes.class) mind(Modifier.isStatic(c.getModifiers()), c + " is not static");
            int fields = 0;
            for (Field f : c.getDeclaredFields()) {
                if (!Modifier.isStatic(f.getModifiers())) fields++;
                else mind(Modifier.isFinal(f.getModifiers()), f + " is static, but not final");
            }
            mind(fields <= 20, c + " has " + fields + " fields");
            for (Method m : c.getDeclaredMethods()) {
                mind(m.getParameterCount() <= 7, m + " takes too much");
                boolean isFace = c == LateMinutes.class && Modifier.isPublic(m.getModifiers());
                mind(isFace || !names.contains(m.getName()), m + " bears a name of the face");
            }
        }
    }

    private static void checkWords() throws IOException {
        String source = Files.readString(Path.of("src/main/java/LateMinutes.java"));
        String code = source.replaceAll("(?s)/\\*.*?\\*/", "").replaceAll("//[^\n]*", "");
        String[] words = {"throw", "throws", "try", "catch", "synchronized", "assert", "->", "::", "\"", "System",
            "Exact", "MIN_VALUE", "MAX_VALUE", "protected", "interface", "Thread", "Random", "Object", "instanceof"};
        for (String w : words) {
            boolean isName = Character.isLetter(w.charAt(0));
            Matcher m = Pattern.compile(isName ? "\\b" + w + "\\b" : Pattern.quote(w)).matcher(code);
            mind(!m.find(), "the word " + w + " stands in the program");
        }
        mind(code.replaceAll("import java.util.Arrays;", "").indexOf("import") < 0, "another import");
        mind(source.chars().allMatch(c -> c < 128), "a sign beyond 127");
        mind(code.indexOf("while") < 0, "a loop without a counter");
    }

    /** A method that calls itself is private and static; others may call one another. */
    private static void checkRecursion() throws IOException {
        String source = Files.readString(Path.of("src/main/java/LateMinutes.java"));
        Matcher m = Pattern.compile("\n( +)((?:\\w+ )*)[\\w\\[\\]]+ (\\w+)\\([^)]*\\) \\{\n").matcher(source);
        int methods = 0;
        while (m.find()) {
            int end = source.indexOf("\n" + m.group(1) + "}", m.end());
            String body = source.substring(m.end(), end);
            boolean callsItself = Pattern.compile("(?<![\\w.])" + m.group(3) + "\\(").matcher(body).find();
            mind(!callsItself || m.group(2).equals("private static "), m.group(3) + " calls itself");
            methods++;
        }
        mind(methods > 150, "only " + methods + " methods were seen");
    }

    private static void checkLengths() throws IOException {
        int from = 0;
        List<String> lines = Files.readAllLines(Path.of("src/main/java/LateMinutes.java"));
        for (int i = 0; i < lines.size(); i++) {
            String line = lines.get(i);
            mind(line.length() <= 120, "line " + (i + 1) + " is too long");
            if (line.isBlank()) from = i;
            mind(i - from <= 60, "a long stretch at line " + (i + 1));
        }
    }
}
