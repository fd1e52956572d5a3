import java.lang.reflect.InvocationTargetException;
import java.lang.reflect.Method;
import java.util.ArrayList;
import java.util.Arrays;
import java.util.Comparator;
import java.util.List;
import java.util.Random;

/** Any arguments in any state: every call answers. */
public final class NeverThrowsTest {
    private static final int[] ODD = {Integer.MIN_VALUE, Integer.MIN_VALUE + 1, -601, -61, -60, -2, -1, 0, 1, 2, 3, 4, 5,
        6, 7, 8, 9, 10, 14, 15, 17, 20, 23, 24, 43, 59, 60, 61, 63, 98, 99, 100, 101, 200, 201, 255, 256, 300, 301, 400, 599,
        600, 601, 1439, 1440, 65535, 65536, 1 << 28, 1 << 30, Integer.MAX_VALUE - 1, Integer.MAX_VALUE};

    public static void main(String[] args) throws IllegalAccessException {
        List<Method> face = new ArrayList<>();
        for (Method m : LateMinutes.class.getDeclaredMethods()) {
            if (java.lang.reflect.Modifier.isPublic(m.getModifiers())) face.add(m);
        }
        face.sort(Comparator.comparing(Method::getName));
        for (int seed = 1; seed <= 400; seed++) {
            Random random = new Random(seed);
            LateMinutes x = new LateMinutes();
            if (seed % 2 == 0) fill(x, random);
            for (int i = 0; i < 300; i++) {
                Method m = face.get(random.nextInt(face.size()));
                Object[] values = new Object[m.getParameterCount()];
                for (int k = 0; k < values.length; k++) {
                    if (m.getParameterTypes()[k] == boolean.class) values[k] = random.nextBoolean();
                    else values[k] = random.nextInt(3) == 0 ? ODD[random.nextInt(ODD.length)] : random.nextInt(9);
                }
                try {
                    m.invoke(x, values);
                } catch (InvocationTargetException e) {
                    System.out.println("seed " + seed + ": " + m + Arrays.toString(values) + " threw " + e.getCause());
                    System.exit(1);
                }
            }
        }
        System.out.println("no call threw");
    }

    /** Full to all its limits. */
    private static void fill(LateMinutes x, Random random) {
        String law = "o9+w(1=1);p100(1=1);l1+x(x<y)";
        for (int[] w : LawTexts.words(law)) x.feed(w[0], w[1], w[2], w[3], w[4]);
        x.law(law.length());
        for (int p = 0; p < 8; p++) {
            for (int i = random.nextInt(7); i > 0; i--) x.end(p, random.nextInt(301), 1 + random.nextInt(20));
            x.crosses(p, random.nextBoolean());
            x.worth(p, random.nextInt(24), 99);
        }
        x.bridge(random.nextInt(101), 100, 600);
        for (int m = 0; m < 24; m++) {
            x.meeting(0, 50 * m, 3 + random.nextInt(253));
            x.draw(m, random.nextInt(80));
            x.settle(m);
        }
        for (int i = 0; i < 60; i++) x.cut(i % 7, 1);
    }
}
