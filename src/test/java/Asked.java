/** What the tests share: asking for the answer that is due, and telling laws, meetings and notes. */
abstract class Asked {
    static String promise = "";
    private static int wrong = 0;
    private static int asked = 0;

    static void due(String call, long got, long want) {
        asked++;
        if (got == want) return;
        wrong++;
        System.out.println(promise + ": " + call + " answered " + got + ", due is " + want);
    }

    static void yes(String call, boolean got) {
        due(call, got ? 1 : 0, 1);
    }

    static void no(String call, boolean got) {
        due(call, got ? 1 : 0, 0);
    }

    static void sum() {
        System.out.println(asked + " answers asked, " + wrong + " not as due");
        if (wrong != 0) System.exit(1);
    }

    static void feed(LateMinutes x, String text) {
        for (int[] w : LawTexts.words(text)) x.feed(w[0], w[1], w[2], w[3], w[4]);
    }

    static int law(LateMinutes x, String text) {
        feed(x, text);
        return x.law(text.length());
    }

    static int law(String text) {
        return law(new LateMinutes(), text);
    }

    /** All of a meeting at once: minutes by person, in order, for the bits of people. */
    static int met(LateMinutes x, int day, int minute, int people, int... comings) {
        int m = x.meeting(day, minute, people);
        int i = 0;
        for (int p = 0; p < 8; p++) {
            if ((people >> p & 1) == 1 && i < comings.length) x.came(m, p, comings[i++]);
        }
        return m;
    }

    /** One note of minutes: from x to y, by a meeting of these two. */
    static void note(LateMinutes late, int x, int y, int minutes) {
        law(late, "ow(w>0)");
        int m = late.meeting(late.count(0), 100, 1 << x | 1 << y);
        late.came(m, x, 100 + minutes);
        late.came(m, y, 100);
        late.settle(m);
    }
}
