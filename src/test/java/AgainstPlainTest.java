import java.util.Random;

/** Runs of drawn calls, each asked of LateMinutes and of Plain. */
public final class AgainstPlainTest {
    private static final String[] CALLS = {"now", "worth", "meeting", "came", "law", "badLaw", "feed", "begins", "keeps",
        "kept", "owes", "chain", "settle", "noteIs", "hand", "cut", "take", "owed", "called", "round", "takings", "end",
        "bridge", "crosses", "lateIf", "hang", "cost", "out", "two", "outTwo", "rest", "lost", "seed", "draw", "check",
        "count", "cameAll", "cameAll", "settle", "settle", "kept", "chain", "draw"};

    private final Random random;
    private final LateMinutes is = new LateMinutes();
    private final Plain due = new Plain();
    private final LawTexts texts;
    private int day;
    // An object is promised for 512 calls; each is counted where its answer is compared, or where it is made.
    private int calls;

    private AgainstPlainTest(long seed) {
        random = new Random(seed);
        texts = new LawTexts(random);
    }

    public static void main(String[] args) {
        int runs = args.length > 0 ? Integer.parseInt(args[0]) : 700;
        long first = args.length > 1 ? Long.parseLong(args[1]) : 1;
        for (long seed = first; seed < first + runs; seed++) {
            AgainstPlainTest run = new AgainstPlainTest(seed);
            run.setUp();
            for (int i = 0; run.calls < 480; i++) {
                String wrong = run.step();
                if (wrong != null) {
                    System.out.println("seed " + seed + " call " + i + ": " + wrong);
                    System.exit(1);
                }
            }
        }
        System.out.println(runs + " drawn runs answer as the plain model");
    }

    private int some(int bound) {
        return random.nextInt(bound);
    }

    /** Mostly within 0 to most, now and then just beside it. */
    private int near(int most) {
        int n = some(40);
        return n == 0 ? -1 : n == 1 ? most + 1 : n == 2 ? most : n == 3 ? 0 : some(most + 1);
    }

    private int person() {
        return near(7);
    }

    private int meeting() {
        return some(20) == 0 ? near(24) : some(Math.max(1, due.meets.size()));
    }

    private int note() {
        return some(20) == 0 ? near(60) : some(Math.max(1, due.notes.size()));
    }

    private String differs(String call, long is, long due) {
        calls++;
        return is == due ? null : call + " answered " + is + ", due is " + due;
    }

    private void setUp() {
        for (int p = 0; p < 8; p++) {
            for (int i = some(6); i > 0; i--) {
                int minutes = some(3) == 0 ? some(301) : 5 * some(20);
                int weight = 1 + some(20);
                is.end(p, minutes, weight);
                due.end(p, minutes, weight);
                calls++;
            }
        }
        String law = texts.good();
        tellLaw(law);
        is.law(law.length());
        due.law(law.length());
        calls += 2;
        if (some(3) == 0) startLate();
    }

    /** Some runs stand at the end of all days. */
    private void startLate() {
        int start = 93 + some(7);
        is.now(start);
        due.now(start);
    }

    private void tellLaw(String text) {
        is.check(0);
        due.check(0);
        calls++;
        for (int[] w : LawTexts.words(text)) {
            calls++;
            is.feed(w[0], w[1], w[2], w[3], w[4]);
            due.feed(w);
        }
    }

    private String fours() {
        is.check(0);
        due.check(0);
        calls++;
        int fours = 0;
        int[] tape = new int[100];
        for (int i = 0; i < due.notes.size() && fours < 25; i++) {
            if (due.noteIs(i, 5) == 0) continue;
            tape[4 * fours] = i;
            tape[4 * fours + 1] = due.noteIs(i, 0);
            tape[4 * fours + 2] = due.noteIs(i, 1);
            tape[4 * fours + 3] = due.noteIs(i, 2);
            fours++;
        }
        if (some(2) == 0) tape[some(100)]++;
        for (int i = 0; i < (4 * fours + 4) / 5; i++) {
            calls++;
            int[] w = java.util.Arrays.copyOfRange(tape, 5 * i, 5 * i + 5);
            is.feed(w[0], w[1], w[2], w[3], w[4]);
            due.feed(w);
        }
        int n = some(4) == 0 ? near(26) : fours;
        return differs("check " + n, is.check(n), due.check(n));
    }

    private String step() {
        String call = CALLS[some(CALLS.length)];
        int m = meeting();
        int p = person();
        int q = person();
        int price = near(99);
        int i = note();
        switch (call) {
            case "now":
                if (some(4) > 0) return null;
                day = some(30) == 0 ? near(99) : due.now + some(4) - 1;
                return differs(call + day, is.now(day) ? 1 : 0, due.now(day) ? 1 : 0);
            case "worth": {
                int hour = near(23);
                return differs(call, is.worth(p, hour, price) ? 1 : 0, due.worth(p, hour, price) ? 1 : 0);
            }
            case "meeting": {
                int d = some(3) == 0 ? near(99) : due.now;
                int minute = some(4) == 0 ? near(1439) : 540 + 20 * some(12);
                int people = near(255);
                return differs(call, is.meeting(d, minute, people), due.meeting(d, minute, people));
            }
            case "came": return came(m, p);
            case "cameAll": {
                for (int k = 0; k < 8; k++) {
                    String wrong = came(m, k);
                    if (wrong != null) return wrong;
                }
                return null;
            }
            case "law":
            case "badLaw": {
                if (some(3) > 0) return null;
                String text = call.equals("law") ? texts.good() : texts.bad();
                tellLaw(text);
                int n = some(15) == 0 ? near(201) : text.length();
                return differs("law " + n + " of " + text, is.law(n), due.law(n));
            }
            case "feed": return differs(call, is.feed(m, p, q, price, i), due.feed(m, p, q, price, i));
            case "begins": return differs(call, is.begins(m), due.begins(m));
            case "keeps": return differs(call, is.keeps(m, p, q), due.keeps(m, p, q));
            case "kept": {
                int what = near(1);
                return differs(call, is.kept(m, p, what), due.kept(m, p, what));
            }
            case "owes": {
                int what = near(2);
                return differs(call + " " + m + " " + p + " " + q + " " + what + " " + due.law,
                    is.owes(m, p, q, what), due.owes(m, p, q, what));
            }
            case "chain": {
                int what = some(3) * 10 + near(5);
                return differs(call, is.chain(m, p, q, what), due.chain(m, p, q, what));
            }
            case "settle": return differs(call, is.settle(m), due.settle(m));
            case "noteIs": {
                int what = near(5);
                return differs(call, is.noteIs(i, what), due.noteIs(i, what));
            }
            case "hand": return differs(call, is.hand(i, p) ? 1 : 0, due.hand(i, p) ? 1 : 0);
            case "cut": {
                int minutes = near(40);
                return differs(call, is.cut(i, minutes), due.cut(i, minutes));
            }
            case "take": {
                int minutes = near(60);
                int hour = near(23);
                return differs(call, is.take(i, minutes, hour), due.take(i, minutes, hour));
            }
            case "owed": {
                int x = some(3) == 0 ? -1 : p;
                int y = some(3) == 0 ? -1 : q;
                return differs(call, is.owed(x, y), due.owed(x, y));
            }
            case "called": {
                int days = near(6);
                return differs(call, is.called(p, days), due.called(p, days));
            }
            case "round": return differs(call, is.round(), due.round());
            case "takings": return differs(call, is.takings(), due.takings());
            default: return stepOfWays(call, m, p, price);
        }
    }

    private String came(int m, int p) {
        Plain.Meet k = m >= 0 && m < due.meets.size() ? due.meets.get(m) : null;
        int minute = k == null || some(10) == 0 ? near(1439) : Math.min(1439, Math.max(0, k.minute + 5 * some(20) - 30));
        return differs("came", is.came(m, p, minute) ? 1 : 0, due.came(m, p, minute) ? 1 : 0);
    }

    private String stepOfWays(String call, int m, int p, int price) {
        int ahead = some(3) == 0 ? near(600) : some(120);
        switch (call) {
            case "end": {
                int weight = near(20);
                return differs(call, is.end(p, ahead, weight), due.end(p, ahead, weight));
            }
            case "bridge": {
                int all = near(100);
                int s = near(Math.max(all, 1));
                return differs(call, is.bridge(s, all, ahead) ? 1 : 0, due.bridge(s, all, ahead) ? 1 : 0);
            }
            case "crosses": {
                boolean yes = some(2) == 0;
                return differs(call, is.crosses(p, yes) ? 1 : 0, due.crosses(p, yes) ? 1 : 0);
            }
            case "lateIf": {
                int what = near(1);
                return differs(call, is.lateIf(p, ahead, what), due.lateIf(p, ahead, what));
            }
            case "hang": {
                int people = near(255);
                int k = near(Math.max(0, Integer.bitCount(people & 255)));
                return differs(call, is.hang(people, ahead, k), due.hang(people, ahead, k));
            }
            case "cost": {
                int a = some(5) == 0 ? -some(63) : ahead;
                return differs(call, is.cost(m, p, a, price), due.cost(m, p, a, price));
            }
            case "out": return differs(call, is.out(m, p, price), due.out(m, p, price));
            case "two": {
                int b = meeting();
                int a = some(5) == 0 ? -some(63) : ahead;
                int stays = near(600);
                return differs(call, is.two(m, b, p, stays, a, price), due.two(m, b, p, stays, a, price));
            }
            case "outTwo": {
                int b = meeting();
                int stays = some(2) == 0 ? near(600) : some(90);
                return differs(call, is.outTwo(m, b, p, stays, price), due.outTwo(m, b, p, stays, price));
            }
            case "rest": {
                if (some(3) > 0) return null;
                int what = some(2) == 0 ? -1 : p;
                return differs(call, is.rest(m, price, what), due.rest(m, price, what));
            }
            case "lost": return differs(call, is.lost(), due.lost());
            case "seed": {
                int x = near(65535);
                return differs(call, is.seed(x) ? 1 : 0, due.seed(x) ? 1 : 0);
            }
            case "draw": return differs(call, is.draw(m, ahead), due.draw(m, ahead));
            case "check": return fours();
            default: {
                int what = near(45);
                return differs("count " + what, is.count(what), due.count(what));
            }
        }
    }
}
