import java.util.ArrayList;
import java.util.List;

/** Two objects built alike: whether one call of one of them changes anything that can be asked later. */
final class Twins {
    interface Call {
        long on(LateMinutes x);
    }

    private static final class Asking {
        final String name;
        final Call call;

        Asking(String name, Call call) {
            this.name = name;
            this.call = call;
        }
    }

    /** Each list is asked of objects of its own, so that none has more than 512 calls. */
    private static final List<List<Asking>> PROBES = List.of(counts(), notes(), meetings(), lawful(), ways(), takes(),
        comings(), settling(), rests(), tapeAsLaw(), tapeAsNotes());

    private Twins() {
    }

    /** The first later answer that is not as if instead had been called; null if there is none. */
    static String differ(Town.Build build, Call call, Call instead) {
        for (List<Asking> list : PROBES) {
            LateMinutes asked = build.make();
            LateMinutes twin = build.make();
            call.on(asked);
            instead.on(twin);
            for (Asking probe : list) {
                long is = probe.call.on(asked);
                long due = probe.call.on(twin);
                if (is != due) return probe.name + " answers " + is + ", not " + due;
            }
        }
        return null;
    }

    private static void add(List<Asking> list, String name, Call call) {
        list.add(new Asking(name, call));
    }

    private static long bit(boolean answer) {
        return answer ? 1 : 0;
    }

    private static List<Asking> counts() {
        List<Asking> list = new ArrayList<>();
        for (int i = 0; i < 44; i++) {
            int what = i;
            add(list, "count " + what, x -> x.count(what));
        }
        for (int i = 0; i < 24; i++) {
            int m = i;
            add(list, "begins " + m, x -> x.begins(m));
        }
        for (int i = 0; i < 81; i++) {
            int a = i / 9 - 1;
            int b = i % 9 - 1;
            add(list, "owed " + a + " " + b, x -> x.owed(a, b));
        }
        for (int i = 0; i < 16; i++) {
            int y = i / 2;
            int days = i % 2 * 6;
            add(list, "called " + y + " " + days, x -> x.called(y, days));
        }
        add(list, "lost", x -> x.lost());
        add(list, "round", x -> x.round());
        add(list, "takings", x -> x.takings());
        return list;
    }

    private static List<Asking> notes() {
        List<Asking> list = new ArrayList<>();
        for (int k = 0; k < 300; k++) {
            int i = k / 5;
            int what = k % 5;
            add(list, "noteIs " + i + " " + what, x -> x.noteIs(i, what));
        }
        return list;
    }

    private static List<Asking> meetings() {
        List<Asking> list = new ArrayList<>();
        for (int i = 0; i < 108; i++) {
            int m = i / 36;
            int a = i / 6 % 6;
            int b = i % 6;
            add(list, "keeps " + m + " " + a + " " + b, x -> x.keeps(m, a, b));
            add(list, "owes " + m + " " + a + " " + b, x -> x.owes(m, a, b, 0));
        }
        for (int i = 0; i < 64; i++) {
            int m = i / 8;
            int p = i % 8;
            add(list, "kept " + m + " " + p, x -> x.kept(m, p, 0));
        }
        return list;
    }

    private static List<Asking> lawful() {
        List<Asking> list = new ArrayList<>();
        for (int i = 0; i < 48; i++) {
            int m = i / 12;
            int a = i / 4 % 3;
            int b = i % 4;
            String of = " " + m + " " + a + " " + b;
            add(list, "hundredths" + of, x -> x.owes(m, a, b, 1));
            add(list, "days" + of, x -> x.owes(m, a, b, 2));
            add(list, "payers" + of, x -> x.chain(m, a, b, 0));
            add(list, "payer" + of, x -> x.chain(m, a, b, 11));
            add(list, "paid" + of, x -> x.chain(m, a, b, 21));
        }
        return list;
    }

    private static List<Asking> ways() {
        List<Asking> list = new ArrayList<>();
        int[] aheads = {0, 9, 10, 39, 40, 60, 299, 300, 599};
        for (int i = 0; i < 72; i++) {
            int p = i / 9;
            int ahead = aheads[i % 9];
            add(list, "lateIf " + p + " " + ahead, x -> x.lateIf(p, ahead, 0) * 1000L + x.lateIf(p, ahead, 1));
            add(list, "cost " + p + " " + ahead, x -> x.cost(5, p, ahead, 7));
        }
        for (int i = 0; i < 9; i++) {
            int k = i;
            add(list, "hang " + k, x -> x.hang(255, 30, k));
        }
        for (int i = 0; i < 24; i++) {
            int hour = i;
            // A meeting of its own for each hour would be too many: the last one has all of its worths.
            add(list, "worth at " + hour, x -> x.cost(3, 1, hour * 20, 1));
        }
        return list;
    }

    private static List<Asking> takes() {
        List<Asking> list = new ArrayList<>();
        for (int k = 0; k < 192; k++) {
            int i = k % 8;
            int hour = k / 8;
            add(list, "take " + i + " at " + hour, x -> x.take(i, 1, hour));
        }
        for (int k = 0; k < 64; k++) {
            int i = k % 8;
            int hour = 3 + k / 8;
            add(list, "take all of " + i + " at " + hour, x -> x.take(i, x.noteIs(i, 2), hour));
        }
        return list;
    }

    private static List<Asking> comings() {
        List<Asking> list = new ArrayList<>();
        for (int i = 0; i < 64; i++) {
            int m = i / 8;
            int p = i % 8;
            add(list, "came " + m + " " + p, x -> bit(x.came(m, p, 700)));
        }
        for (int i = 0; i < 24; i++) {
            int m = i;
            add(list, "draw " + m, x -> x.draw(m, 5));
            add(list, "begins " + m, x -> x.begins(m));
            add(list, "X", x -> x.count(5));
        }
        return list;
    }

    private static List<Asking> settling() {
        List<Asking> list = new ArrayList<>();
        for (int i = 0; i < 8; i++) {
            int p = i;
            add(list, "crosses " + p, x -> bit(x.crosses(p, true)));
            add(list, "end " + p, x -> x.end(p, 1, 1));
            add(list, "cut " + p, x -> x.cut(p, 1));
            add(list, "hand " + p, x -> bit(x.hand(p, 7)));
        }
        add(list, "meeting", x -> x.meeting(99, 1439, 255));
        for (int i = 0; i < 24; i++) {
            int m = i;
            add(list, "settle " + m, x -> x.settle(m));
        }
        add(list, "now", x -> bit(x.now(8)));
        for (int i = 0; i < 24; i++) {
            int m = i;
            add(list, "settle " + m, x -> x.settle(m));
            add(list, "now " + m, x -> bit(x.now(m * 5)));
        }
        add(list, "owed", x -> x.owed(-1, -1));
        return list;
    }

    private static List<Asking> rests() {
        List<Asking> list = new ArrayList<>();
        for (int i = 0; i < 8; i++) {
            int m = i;
            add(list, "rest " + m, x -> x.rest(m, 5, -1));
            add(list, "out " + m, x -> x.out(m, 1, 5));
            add(list, "two " + m, x -> x.two(0, m, 0, 20, 20, 5));
        }
        return list;
    }

    private static List<Asking> tapeAsLaw() {
        List<Asking> list = new ArrayList<>();
        add(list, "feed", x -> x.feed(1, 2, 3, 4, 5));
        add(list, "law", x -> x.law(15));
        add(list, "clauses", x -> x.count(3));
        add(list, "owes", x -> x.owes(0, 0, 2, 0));
        add(list, "lapses", x -> x.owes(0, 0, 2, 2));
        add(list, "bytes", x -> x.count(4));
        return list;
    }

    private static List<Asking> tapeAsNotes() {
        List<Asking> list = new ArrayList<>();
        for (int i = 25; i >= 0; i--) {
            int n = i;
            add(list, "check " + n, x -> x.check(n));
        }
        return list;
    }
}
