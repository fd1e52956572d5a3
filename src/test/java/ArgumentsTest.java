import java.lang.reflect.InvocationTargetException;
import java.lang.reflect.Method;
import java.util.Arrays;

/** Each argument of each call: what is just allowed, what is just not, and that the latter changes nothing. */
public final class ArgumentsTest extends Asked {
    // In any place these are no person, meeting, note, minute or number of them.
    private static final int[] NEVER = {Integer.MIN_VALUE, Integer.MIN_VALUE + 3, 1 << 30, Integer.MAX_VALUE};

    public static void main(String[] args) {
        days();
        comings();
        keeping();
        owing();
        notes();
        taking();
        waysAndBridge();
        chances();
        costs();
        rows();
        rests();
        tape();
        sum();
    }

    private static int[] of(int... values) {
        return values;
    }

    private static Method find(String call) {
        for (Method m : LateMinutes.class.getDeclaredMethods()) if (m.getName().equals(call)) return m;
        throw new IllegalStateException(call);
    }

    private static long ask(LateMinutes x, String call, int[] args) {
        Method m = find(call);
        Object[] values = new Object[args.length];
        for (int i = 0; i < args.length; i++) {
            boolean isFlag = m.getParameterTypes()[i] == boolean.class;
            values[i] = isFlag ? (Object) (args[i] != 0) : (Object) args[i];
        }
        try {
            Object answer = m.invoke(x, values);
            return answer instanceof Boolean ? ((Boolean) answer ? 1 : 0) : ((Number) answer).longValue();
        } catch (IllegalAccessException | InvocationTargetException e) {
            throw new IllegalStateException(call + Arrays.toString(args), e);
        }
    }

    private static long refusal(String call) {
        switch (call) {
            case "noteIs": return -1000;
            case "rest": return -3;
            case "check": return -2;
            default: return find(call).getReturnType() == boolean.class ? 0 : -1;
        }
    }

    private static int[] with(int[] args, int at, int value) {
        int[] changed = args.clone();
        changed[at] = value;
        return changed;
    }

    /** In the busy town: one argument of a call that is allowed, by values that are and that are not. */
    private static void row(String call, int[] args, int at, int[] allowed, int... refused) {
        promise = call;
        for (int value : allowed) {
            int[] as = with(args, at, value);
            due(Arrays.toString(as) + " is refused", ask(Town.busy(), call, as) == refusal(call) ? 1 : 0, 0);
        }
        for (int value : refused) refuse(call, with(args, at, value));
        for (int value : NEVER) refuse(call, with(args, at, value));
    }

    private static void refuse(String call, int[] args) {
        due(Arrays.toString(args), ask(Town.busy(), call, args), refusal(call));
        String differs = Twins.differ(Town::busy, x -> ask(x, call, args), x -> 0);
        due(Arrays.toString(args) + ", then " + differs, differs == null ? 0 : 1, 0);
    }

    private static void days() {
        row("now", of(2), 0, of(2, 3, 99), -1, 0, 1, 100);
        row("worth", of(0, 0, 0), 0, of(0, 7), -1, 8, 32);
        row("worth", of(0, 0, 0), 1, of(0, 23), -1, 24, 32);
        row("worth", of(0, 0, 0), 2, of(0, 99), -1, 100, 256);
        row("meeting", of(0, 0, 3), 0, of(0, 99), -1, 100);
        row("meeting", of(0, 0, 3), 1, of(0, 1439), -1, 1440);
        row("meeting", of(0, 0, 3), 2, of(3, 129, 192, 255), -1, 0, 1, 2, 4, 128, 256, 257, 259, 511);
        row("begins", of(0), 0, of(0, 1, 2, 4), -1, 3, 5, 6, 7, 24);
        row("settle", of(2), 0, of(2), -1, 0, 1, 3, 4, 5, 6, 7, 24);
    }

    private static void comings() {
        row("came", of(5, 0, 0), 0, of(3, 5, 6), -1, 0, 1, 2, 4, 7, 24);
        row("came", of(5, 0, 0), 1, of(0, 1, 2, 3, 4), -1, 5, 6, 7, 8, 32, 36);
        row("came", of(5, 0, 0), 2, of(0, 1439), -1, 1440);
        row("draw", of(3, 0), 0, of(2, 3, 4, 5, 6), -1, 0, 1, 7, 24);
        row("draw", of(3, 0), 1, of(0, 600), -1, 601);
        row("seed", of(0), 0, of(0, 1, 65535), -1, 65536, 65537);
    }

    private static void keeping() {
        row("keeps", of(1, 0, 3), 0, of(1), -1, 0, 2, 3, 5, 7, 24);
        row("keeps", of(1, 0, 3), 1, of(0, 4), -1, 1, 2, 3, 5, 7, 8, 32);
        row("keeps", of(1, 0, 3), 2, of(3, 4), -1, 0, 1, 2, 5, 7, 8, 35);
        row("kept", of(1, 0, 0), 0, of(0, 1, 3), -1, 2, 4, 5, 6, 7, 24);
        row("kept", of(1, 0, 0), 1, of(0, 3, 4), -1, 1, 2, 5, 7, 8, 32);
        row("kept", of(1, 0, 0), 2, of(0, 1), -1, 2);
    }

    private static void owing() {
        row("owes", of(1, 0, 3, 0), 0, of(1), -1, 0, 2, 3, 5, 7, 24);
        row("owes", of(1, 0, 3, 0), 1, of(0, 4), -1, 1, 2, 3, 5, 7, 8, 32);
        row("owes", of(1, 0, 3, 0), 2, of(3, 4), -1, 0, 1, 2, 5, 7, 8, 35);
        row("owes", of(1, 0, 3, 0), 3, of(0, 1, 2), -1, 3);
        row("owes", of(3, 0, 1, 0), 0, of(0), 3, 5, 6);
        row("chain", of(1, 0, 3, 0), 0, of(1), -1, 0, 2, 3, 5, 7, 24);
        row("chain", of(1, 0, 3, 0), 1, of(0, 4), -1, 1, 2, 3, 5, 7, 8, 32);
        row("chain", of(1, 0, 3, 0), 2, of(3, 4), -1, 0, 1, 2, 5, 7, 8, 35);
        row("chain", of(1, 0, 3, 0), 3, of(0, 10, 11, 20, 21), -1, 1, 9, 12, 19, 22, 30, 44);
        row("chain", of(3, 0, 1, 0), 0, of(0), 3, 5, 6);
    }

    private static void notes() {
        row("noteIs", of(0, 0), 0, of(0, 6), -1, 7, 59, 60);
        row("noteIs", of(0, 0), 1, of(0, 5), -1, 6);
        // Notes 2 and 3 have no minutes.
        row("hand", of(0, 7), 0, of(0, 1, 4, 5, 6), -1, 2, 3, 7, 60);
        row("hand", of(0, 7), 1, of(0, 1, 2, 3, 7), -1, 4, 8, 32);
        row("cut", of(0, 1), 0, of(0, 1, 6), -1, 2, 3, 7, 60);
        row("cut", of(0, 1), 1, of(1, 29), -1, 0, 30, 31);
        row("owed", of(-1, -1), 0, of(-1, 0, 7), -2, 8);
        row("owed", of(-1, -1), 1, of(-1, 0, 7), -2, 8);
        row("owed", of(3, 4), 0, of(-1, 3), -2, 4, 8);
        row("owed", of(3, 4), 1, of(-1, 4), -2, 3, 8);
        row("called", of(1, 0), 0, of(0, 7), -1, 8);
        row("called", of(1, 0), 1, of(0, 6), -1, 7);
    }

    private static void taking() {
        row("take", of(1, 1, 9), 0, of(0, 1, 6), -1, 2, 3, 7, 60);
        // Note 1 has 5 left.
        row("take", of(1, 1, 9), 1, of(1, 5), -1, 0, 6, 60, 61);
        row("take", of(1, 1, 9), 2, of(0, 23), -1, 24, 25);
    }

    private static void waysAndBridge() {
        row("end", of(0, 0, 1), 0, of(0, 7), -1, 1, 8);
        row("end", of(0, 0, 1), 1, of(0, 300), -1, 301);
        row("end", of(0, 0, 1), 2, of(1, 20), -1, 0, 21);
        row("bridge", of(1, 4, 30), 0, of(0, 1, 3, 4), -1, 5);
        row("bridge", of(1, 4, 30), 1, of(1, 100), -1, 0, 101);
        row("bridge", of(0, 4, 30), 1, of(1, 100), -1, 0, 101);
        row("bridge", of(100, 100, 30), 1, of(100), 1, 99, 101);
        row("bridge", of(1, 4, 30), 2, of(0, 600), -1, 601);
        row("crosses", of(1, 1), 0, of(1, 7), -1, 0, 8, 32);
        row("crosses", of(0, 0), 0, of(0), -1, 1, 7, 8, 32);
    }

    private static void chances() {
        row("lateIf", of(0, 10, 0), 0, of(0, 7), -1, 8);
        row("lateIf", of(0, 10, 0), 1, of(0, 600), -1, 601);
        row("lateIf", of(0, 10, 0), 2, of(0, 1), -1, 2);
        row("hang", of(7, 10, 1), 0, of(1, 128, 255), -1, 0, 256, 257, 511);
        row("hang", of(7, 10, 1), 1, of(0, 600), -1, 601);
        row("hang", of(7, 10, 1), 2, of(0, 1, 2, 3), -1, 4);
        row("hang", of(255, 10, 1), 2, of(0, 8), -1, 9);
    }

    private static void costs() {
        row("cost", of(0, 0, 10, 5), 0, of(0, 1, 3, 5, 6), -1, 2, 4, 7, 24);
        row("cost", of(0, 0, 10, 5), 1, of(0, 1, 2), -1, 3, 7, 8, 32);
        row("cost", of(0, 0, 10, 5), 2, of(-60, 0, 600), -61, 601);
        row("cost", of(0, 0, 10, 5), 3, of(0, 99), -1, 100);
        row("out", of(0, 0, 5), 0, of(0, 1, 3, 5, 6), -1, 2, 4, 7, 24);
        row("out", of(0, 0, 5), 1, of(0, 1, 2), -1, 3, 7, 8, 32);
        row("out", of(0, 0, 5), 2, of(0, 99), -1, 100);
    }

    private static void rows() {
        row("two", of(0, 1, 0, 30, 10, 5), 0, of(0), -1, 1, 2, 3, 4, 5, 7, 24);
        row("two", of(0, 1, 0, 30, 10, 5), 1, of(1, 3, 5, 6), -1, 0, 2, 4, 7, 24);
        row("two", of(0, 1, 0, 30, 10, 5), 2, of(0), -1, 1, 3, 7, 8, 32);
        row("two", of(0, 1, 0, 30, 10, 5), 3, of(0, 600), -1, 601);
        row("two", of(0, 1, 0, 30, 10, 5), 4, of(-60, 0, 600), -61, 601);
        row("two", of(0, 1, 0, 30, 10, 5), 5, of(0, 99), -1, 100);
        row("outTwo", of(0, 1, 0, 30, 5), 0, of(0), -1, 1, 2, 3, 4, 5, 7, 24);
        row("outTwo", of(0, 1, 0, 30, 5), 1, of(1, 3, 5, 6), -1, 0, 2, 4, 7, 24);
        row("outTwo", of(0, 1, 0, 30, 5), 2, of(0), -1, 1, 3, 7, 8, 32);
        row("outTwo", of(0, 1, 0, 30, 5), 3, of(0, 600), -1, 601);
        row("outTwo", of(0, 1, 0, 30, 5), 4, of(0, 99), -1, 100);
    }

    private static void rests() {
        row("rest", of(1, 5, -1), 0, of(0, 1, 2, 3, 4, 6), -1, 5, 7, 24);
        row("rest", of(1, 5, 0), 0, of(0, 1, 3, 6), -1, 2, 4, 5, 7, 24);
        row("rest", of(1, 5, 0), 1, of(0, 99), -1, 100);
        row("rest", of(1, 5, 0), 2, of(-1, 0, 3, 4), -2, 1, 2, 5, 7, 8, 32);
    }

    private static void tape() {
        // Of a law with a fault the answer is the fault.
        row("law", of(15), 0, of(1, 14, 15, 40), -1, 0, 41, 200, 201);
        row("check", of(0), 0, of(0, 1, 2), -1, 3, 25, 26, 1 << 28);
        row("count", of(0), 0, of(0, 6, 10, 17, 20, 26), -1, 7, 8, 9, 18, 19, 27, 43, 44);
    }
}
