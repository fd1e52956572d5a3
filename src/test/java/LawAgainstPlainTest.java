import java.util.Random;

/** Drawn laws, good and bad, read and asked by LateMinutes and by Plain. */
public final class LawAgainstPlainTest {
    private static final String[] HEADS = {"", "o", "o1(", "o1(1", "o1(1=", "o1(1=1", "o1(1=1)", "o[[[[[", "o1((((", "o1(!!!!"};
    private static final String SIGNS = "1w()[]!&|=+;o";

    public static void main(String[] args) {
        int runs = args.length > 0 ? Integer.parseInt(args[0]) : 2000;
        for (long seed = 1; seed <= runs; seed++) {
            String wrong = run(new Random(seed));
            if (wrong != null) {
                System.out.println("seed " + seed + ": " + wrong);
                System.exit(1);
            }
        }
        for (String head : HEADS) {
            String wrong = goOn(new StringBuilder(head), 3);
            if (wrong != null) {
                System.out.println(wrong);
                System.exit(1);
            }
        }
        System.out.println(runs + " times 18 drawn laws are read and asked as by the plain model");
    }

    /** Each text of a few signs behind one that is good so far. */
    private static String goOn(StringBuilder text, int more) {
        if (text.length() > 0) {
            LateMinutes is = new LateMinutes();
            Plain due = new Plain();
            for (int[] w : LawTexts.words(text.toString())) {
                is.feed(w[0], w[1], w[2], w[3], w[4]);
                due.feed(w);
            }
            int read = is.law(text.length());
            int dueRead = due.law(text.length());
            if (read != dueRead) return text + " read as " + read + ", due is " + dueRead;
        }
        for (int i = 0; i < SIGNS.length() && more > 0; i++) {
            text.append(SIGNS.charAt(i));
            String wrong = goOn(text, more - 1);
            if (wrong != null) return wrong;
            text.setLength(text.length() - 1);
        }
        return null;
    }

    private static String run(Random random) {
        LateMinutes is = new LateMinutes();
        Plain due = new Plain();
        LawTexts texts = new LawTexts(random);
        for (int m = 0; m < 2; m++) {
            int minute = 500 + 100 * m;
            is.meeting(3, minute, 15);
            due.meeting(3, minute, 15);
            for (int p = 0; p < 4; p++) {
                int coming = minute + 5 * random.nextInt(20) - 20;
                is.came(m, p, coming);
                due.came(m, p, coming);
            }
        }
        is.worth(1, 10, 7);
        due.worth(1, 10, 7);
        // More would be more than the 512 calls that an object is promised for.
        for (int i = 0; i < 18; i++) {
            String text = random.nextInt(3) == 0 ? texts.bad() : texts.good();
            for (int[] w : LawTexts.words(text)) {
                is.feed(w[0], w[1], w[2], w[3], w[4]);
                due.feed(w);
            }
            int read = is.law(text.length());
            int dueRead = due.law(text.length());
            if (read != dueRead) return text + " read as " + read + ", due is " + dueRead;
            for (int k = 0; k < 16; k++) {
                int m = random.nextInt(2);
                int what = random.nextInt(3);
                int got = is.owes(m, k / 4, k % 4, what);
                int want = due.owes(m, k / 4, k % 4, what);
                if (got != want) return due.law + " owes " + m + " " + k + " " + what + " is " + got + ", due is " + want;
            }
        }
        return null;
    }
}
