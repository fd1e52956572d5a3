import java.util.ArrayList;
import java.util.Arrays;
import java.util.List;
import java.util.function.IntBinaryOperator;

/** The document once more, as plainly and slowly as it reads: what LateMinutes is compared with. */
final class Plain {
    static final class Refused extends RuntimeException {
        private static final long serialVersionUID = 1;
    }

    static final class Fault extends RuntimeException {
        private static final long serialVersionUID = 1;
        final int answer;

        Fault(int number, int place) {
            answer = -1000 * number - place;
        }
    }

    static final class Meet {
        int day, minute, people;
        Integer[] came = new Integer[8];
        boolean settled;

        boolean of(int p) {
            return p >= 0 && p < 8 && (people & 1 << p) != 0;
        }

        List<Integer> all() {
            List<Integer> list = new ArrayList<>();
            for (int p = 0; p < 8; p++) if (of(p)) list.add(p);
            return list;
        }

        boolean allCame() {
            return all().stream().allMatch(p -> came[p] != null);
        }

        int begins() {
            return Math.max(minute, all().stream().mapToInt(p -> came[p]).max().getAsInt());
        }

        int keeper() {
            int last = all().stream().mapToInt(p -> came[p]).max().getAsInt();
            return all().stream().filter(p -> came[p] == last).findFirst().get();
        }
    }

    static final class Note {
        int ower, holder, minutes, day, lapse;

        Note(int ower, int holder, int minutes, int day, int lapse) {
            this.ower = ower;
            this.holder = holder;
            this.minutes = minutes;
            this.day = day;
            this.lapse = lapse;
        }
    }

    int now;
    final int[][] worth = new int[8][24];
    final List<Meet> meets = new ArrayList<>();
    final List<Note> notes = new ArrayList<>();
    final List<Integer> tape = new ArrayList<>();
    String law = "";
    int clauses;
    int[][] gave = new int[8][24];
    int[][] took = new int[8][24];
    final List<List<int[]>> ends = new ArrayList<>();
    final boolean[] crosses = new boolean[8];
    int s, all = 1, more, x = 1;

    Plain() {
        for (int[] row : worth) Arrays.fill(row, 1);
        for (int p = 0; p < 8; p++) ends.add(new ArrayList<>());
    }

    private static boolean in(int v, int a, int b) {
        return v >= a && v <= b;
    }

    private Meet meet(int m) {
        return in(m, 0, meets.size() - 1) ? meets.get(m) : null;
    }

    boolean now(int day) {
        if (!in(day, 0, 99) || day < now) return false;
        if (day != now) {
            gave = new int[8][24];
            took = new int[8][24];
        }
        now = day;
        return true;
    }

    boolean worth(int p, int hour, int n) {
        if (!in(p, 0, 7) || !in(hour, 0, 23) || !in(n, 0, 99)) return false;
        worth[p][hour] = n;
        return true;
    }

    int meeting(int day, int minute, int people) {
        if (!in(day, 0, 99) || !in(minute, 0, 1439) || !in(people, 0, 255)) return -1;
        if (Integer.bitCount(people) < 2 || meets.size() == 24) return -1;
        Meet m = new Meet();
        m.day = day;
        m.minute = minute;
        m.people = people;
        meets.add(m);
        return meets.size() - 1;
    }

    boolean came(int m, int p, int minute) {
        if (meet(m) == null || !meet(m).of(p) || meet(m).settled || !in(minute, 0, 1439)) return false;
        meet(m).came[p] = minute;
        return true;
    }

    int feed(int... words) {
        if (tape.size() + 20 > 400) return -1;
        for (int w : words) for (int k = 3; k >= 0; k--) tape.add(w >>> 8 * k & 255);
        return tape.size();
    }

    int law(int n) {
        if (!in(n, 1, 200) || n > tape.size()) return -1;
        StringBuilder b = new StringBuilder();
        for (int i = 0; i < n; i++) b.append((char) (int) tape.get(i));
        tape.clear();
        try {
            int count = new Reader(b.toString()).law();
            law = b.toString();
            clauses = count;
            return count;
        } catch (Fault f) {
            return f.answer;
        }
    }

    /** Walks a text by the grammar; it throws at the first fault. */
    static final class Reader {
        final String t;
        int at;
        int open;

        Reader(String t) {
            this.t = t;
        }

        char c() {
            return at < t.length() ? t.charAt(at) : 0;
        }

        void need(String some) {
            if (at >= t.length() || some.indexOf(t.charAt(at)) < 0) throw new Fault(1, at);
        }

        void down() {
            if (open == 6) throw new Fault(5, at);
            open++;
            at++;
        }

        int law() {
            for (int count = 1;; count++) {
                need("opl");
                if (count == 15) throw new Fault(4, at);
                at++;
                e();
                need("(");
                down();
                c1();
                need(")");
                at++;
                open--;
                if (at == t.length()) return count;
                need(";");
                at++;
            }
        }

        void c1() {
            part();
            while (c() == '|') {
                at++;
                part();
            }
        }

        void part() {
            piece();
            while (c() == '&') {
                at++;
                piece();
            }
        }

        void piece() {
            if (c() == '!') {
                down();
                piece();
                open--;
            } else if (c() == '(') {
                down();
                c1();
                need(")");
                at++;
                open--;
            } else {
                e();
                need("<>=");
                at++;
                e();
            }
        }

        void e() {
            term();
            while (at < t.length() && "+-".indexOf(c()) >= 0) {
                at++;
                term();
            }
        }

        void term() {
            factor();
            while (at < t.length() && "*/%".indexOf(c()) >= 0) {
                at++;
                factor();
            }
        }

        void factor() {
            need("[0123456789wabngkrhdxyv");
            if (c() == '[') {
                down();
                e();
                need("]");
                at++;
                open--;
            } else if (Character.isDigit(c())) {
                int from = at;
                while (at < t.length() && Character.isDigit(c())) {
                    if (at - from == 5) throw new Fault(2, at);
                    at++;
                }
            } else {
                at++;
            }
        }
    }

    /** Splits a faultless text at signs outside of brackets, the last one first, and asks each half. */
    final class Judge {
        final Meet meet;
        final int m, px, py;

        Judge(int m, int px, int py) {
            this.m = m;
            this.meet = meets.get(m);
            this.px = px;
            this.py = py;
        }

        int lastOutside(String t, String signs) {
            int depth = 0;
            for (int i = t.length() - 1; i >= 0; i--) {
                char c = t.charAt(i);
                if (c == ')' || c == ']') depth++;
                else if (c == '(' || c == '[') depth--;
                else if (depth == 0 && signs.indexOf(c) >= 0) return i;
            }
            return -1;
        }

        boolean holds(String t) {
            int i = lastOutside(t, "|");
            if (i >= 0) return holds(t.substring(0, i)) || holds(t.substring(i + 1));
            i = lastOutside(t, "&");
            if (i >= 0) return holds(t.substring(0, i)) && holds(t.substring(i + 1));
            if (t.charAt(0) == '!') return !holds(t.substring(1));
            if (t.charAt(0) == '(') return holds(t.substring(1, t.length() - 1));
            i = lastOutside(t, "<>=");
            int a = reckon(t.substring(0, i));
            int b = reckon(t.substring(i + 1));
            return t.charAt(i) == '<' ? a < b : t.charAt(i) == '>' ? a > b : a == b;
        }

        int reckon(String t) {
            int i = lastOutside(t, "+-");
            if (i < 0) i = lastOutside(t, "*/%");
            if (i >= 0) {
                int a = reckon(t.substring(0, i));
                int b = reckon(t.substring(i + 1));
                switch (t.charAt(i)) {
                    case '+': return a + b;
                    case '-': return a - b;
                    case '*': return a * b;
                    default: break;
                }
                if (b == 0) throw new Refused();
                return t.charAt(i) == '/' ? a / b : a % b;
            }
            if (t.charAt(0) == '[') return reckon(t.substring(1, t.length() - 1));
            if (Character.isDigit(t.charAt(0))) return Integer.parseInt(t);
            return letter(t.charAt(0));
        }

        int letter(char c) {
            switch (c) {
                case 'w': return keeps(m, px, py);
                case 'a': return Math.max(0, meet.came[px] - meet.minute);
                case 'b': return Math.max(0, meet.came[py] - meet.minute);
                case 'n': return meet.all().size();
                case 'g': return meet.begins() - meet.minute;
                case 'k': return keptBy(m, px) >= 0 ? 1 : 0;
                case 'r': return (int) meet.all().stream().filter(p -> meet.came[p] > meet.came[px]).count();
                case 'h': return meet.minute / 60;
                case 'd': return meet.day;
                case 'x': return px;
                case 'y': return py;
                case 'v': return worth[py][meet.minute / 60];
                default: throw new IllegalStateException();
            }
        }

        int value(char letter, int most) {
            if (law.isEmpty()) return 0;
            for (String clause : law.split(";")) {
                int i = clause.indexOf('(');
                if (clause.charAt(0) != letter) continue;
                try {
                    if (!holds(clause.substring(i + 1, clause.length() - 1))) continue;
                } catch (Refused e) {
                    continue;
                }
                try {
                    return Math.max(0, Math.min(most, reckon(clause.substring(1, i))));
                } catch (Refused e) {
                    return 0;
                }
            }
            return 0;
        }
    }

    int begins(int m) {
        return meet(m) == null || !meet(m).allCame() ? -1 : meet(m).begins();
    }

    int keeps(int m, int px, int py) {
        Meet k = meet(m);
        if (k == null || px == py || !k.of(px) || !k.of(py) || k.came[px] == null || k.came[py] == null) return -1;
        return Math.max(0, k.came[px] - Math.max(k.came[py], k.minute));
    }

    int keptBy(int m, int p) {
        Meet k = meets.get(m);
        if (k.came[p] <= k.minute) return -1;
        int best = -1;
        for (int i = 0; i < meets.size(); i++) {
            Meet o = meets.get(i);
            if (i == m || o.day != k.day || o.minute >= k.minute || !o.of(p) || !o.allCame()) continue;
            int g = o.begins() - o.minute;
            if (g == 0 || k.came[p] - g > k.minute || o.keeper() == p) continue;
            if (best < 0 || meets.get(best).minute <= o.minute) best = i;
        }
        return best;
    }

    int kept(int m, int p, int what) {
        if (meet(m) == null || !meet(m).of(p) || meet(m).came[p] == null || !in(what, 0, 1)) return -1;
        int by = keptBy(m, p);
        if (by < 0) return -2;
        return what == 0 ? by : meets.get(by).keeper();
    }

    private boolean asked(int m, int px, int py) {
        return meet(m) != null && meet(m).of(px) && meet(m).of(py) && px != py && meet(m).allCame();
    }

    int owes(int m, int px, int py, int what) {
        if (!asked(m, px, py) || !in(what, 0, 2)) return -1;
        Judge j = new Judge(m, px, py);
        return what == 0 ? j.value('o', 1440) : what == 1 ? j.value('p', 100) : j.value('l', 100);
    }

    private List<int[]> chainOf(int m, int px, int py) {
        List<int[]> parts = new ArrayList<>();
        pay(parts, m, px, owes(m, px, py, 0), owes(m, px, py, 1));
        return parts;
    }

    private void pay(List<int[]> parts, int m, int payer, int minutes, int hundredths) {
        int by = keptBy(m, payer);
        int on = by < 0 ? 0 : minutes * hundredths / 100;
        parts.add(new int[] {payer, minutes - on});
        if (on > 0) pay(parts, by, meets.get(by).keeper(), on, hundredths);
    }

    int chain(int m, int px, int py, int what) {
        if (!asked(m, px, py)) return -1;
        List<int[]> parts = chainOf(m, px, py);
        if (what == 0) return parts.size();
        if (in(what, 10, 19) && what - 10 < parts.size()) return parts.get(what - 10)[0];
        if (what >= 20 && what - 20 < parts.size()) return parts.get(what - 20)[1];
        return -1;
    }

    int settle(int m) {
        Meet k = meet(m);
        if (k == null || k.settled || !k.allCame() || k.day > now) return -1;
        List<Note> made = new ArrayList<>();
        for (int px : k.all()) {
            for (int py : k.all()) {
                if (px == py) continue;
                int l = owes(m, px, py, 2);
                for (int[] part : chainOf(m, px, py)) {
                    if (part[1] > 0 && part[0] != py) {
                        made.add(new Note(part[0], py, part[1], now, l == 0 ? -1 : now + l));
                    }
                }
            }
        }
        if (notes.size() + made.size() > 60) return -2;
        notes.addAll(made);
        k.settled = true;
        return made.size();
    }

    private boolean live(int i) {
        return in(i, 0, notes.size() - 1) && notes.get(i).minutes > 0 && lasts(notes.get(i), now);
    }

    private static boolean lasts(Note n, int day) {
        return n.lapse < 0 || day < n.lapse;
    }

    private List<Note> living() {
        List<Note> list = new ArrayList<>();
        for (int i = 0; i < notes.size(); i++) if (live(i)) list.add(notes.get(i));
        return list;
    }

    int noteIs(int i, int what) {
        if (!in(i, 0, notes.size() - 1) || !in(what, 0, 5)) return -1000;
        Note n = notes.get(i);
        return new int[] {n.ower, n.holder, n.minutes, n.day, n.lapse, live(i) ? 1 : 0}[what];
    }

    boolean hand(int i, int p) {
        if (!live(i) || !in(p, 0, 7) || notes.get(i).holder == p) return false;
        notes.get(i).holder = p;
        if (notes.get(i).ower == p) notes.get(i).minutes = 0;
        return true;
    }

    int cut(int i, int minutes) {
        if (!live(i) || minutes < 1 || notes.get(i).minutes <= minutes || notes.size() == 60) return -1;
        Note n = notes.get(i);
        n.minutes -= minutes;
        notes.add(new Note(n.ower, n.holder, minutes, n.day, n.lapse));
        return notes.size() - 1;
    }

    int take(int i, int minutes, int hour) {
        if (!live(i) || !in(minutes, 1, 60) || !in(hour, 0, 23)) return -1;
        Note n = notes.get(i);
        if (n.minutes < minutes || gave[n.ower][hour] > 60 - minutes || took[n.holder][hour] > 60 - minutes) return -1;
        gave[n.ower][hour] += minutes;
        took[n.holder][hour] += minutes;
        n.minutes -= minutes;
        return n.minutes;
    }

    int owed(int px, int py) {
        if (!in(px, -1, 7) || !in(py, -1, 7) || px == py && px >= 0) return -1;
        return living().stream().filter(n -> px < 0 || n.ower == px).filter(n -> py < 0 || n.holder == py)
            .mapToInt(n -> n.minutes).sum();
    }

    /** A flow from notes by days and hours, each time by the dearest way that is left. */
    long called(int y, int days) {
        if (!in(y, 0, 7) || !in(days, 0, 6)) return -1;
        List<Note> mine = new ArrayList<>();
        for (Note n : living()) if (n.holder == y) mine.add(n);
        int many = 0;
        while (many <= days && now + many <= 99) many++;
        int slots = 24 * many;
        int first = 2 + mine.size();
        Flow flow = new Flow(first + slots);
        for (int i = 0; i < mine.size(); i++) {
            flow.edge(0, 2 + i, mine.get(i).minutes, 0);
            for (int d = 0; d < many; d++) {
                for (int h = 0; h < 24; h++) {
                    if (lasts(mine.get(i), now + d)) flow.edge(2 + i, first + d * 24 + h, 100000, 0);
                }
            }
        }
        for (int d = 0; d < many; d++) {
            for (int h = 0; h < 24; h++) flow.edge(first + d * 24 + h, 1, d == 0 ? 60 - took[y][h] : 60, -worth[y][h]);
        }
        return -flow.leastCost();
    }

    static final class Flow {
        final int nodes;
        final List<int[]> edges = new ArrayList<>();

        Flow(int nodes) {
            this.nodes = nodes;
        }

        void edge(int a, int b, int room, int cost) {
            edges.add(new int[] {a, b, room, cost});
            edges.add(new int[] {b, a, 0, -cost});
        }

        long leastCost() {
            long sum = 0;
            while (true) {
                long[] far = new long[nodes];
                int[] by = new int[nodes];
                Arrays.fill(far, Long.MAX_VALUE / 2);
                Arrays.fill(by, -1);
                far[0] = 0;
                for (boolean changed = true; changed;) {
                    changed = false;
                    for (int i = 0; i < edges.size(); i++) {
                        int[] e = edges.get(i);
                        if (e[2] > 0 && far[e[0]] < Long.MAX_VALUE / 4 && far[e[0]] + e[3] < far[e[1]]) {
                            far[e[1]] = far[e[0]] + e[3];
                            by[e[1]] = i;
                            changed = true;
                        }
                    }
                }
                if (far[1] >= 0) return sum;
                int many = Integer.MAX_VALUE;
                for (int v = 1; v != 0; v = edges.get(by[v])[0]) many = Math.min(many, edges.get(by[v])[2]);
                for (int v = 1; v != 0; v = edges.get(by[v])[0]) {
                    edges.get(by[v])[2] -= many;
                    edges.get(by[v] ^ 1)[2] += many;
                }
                sum += far[1] * many;
            }
        }
    }

    /** Strikes rounds as long as one is left that lessens the whole. */
    int round() {
        int[][] due = new int[8][8];
        for (Note n : living()) due[n.ower][n.holder] += n.minutes;
        int[][] left = new int[8][8];
        for (int i = 0; i < 8; i++) left[i] = due[i].clone();
        while (strikeOne(due, left)) {
            // again
        }
        return Arrays.stream(left).flatMapToInt(Arrays::stream).sum();
    }

    private static boolean strikeOne(int[][] due, int[][] left) {
        // A step from x to y strikes a minute that x owes y, or brings one back that y owes x.
        int[] cost = new int[8];
        int[] from = new int[8];
        int moved = -1;
        Arrays.fill(from, -1);
        for (int turn = 0; turn < 9; turn++) {
            moved = -1;
            for (int a = 0; a < 8; a++) {
                for (int b = 0; b < 8; b++) {
                    int step = left[a][b] > 0 ? -1 : left[b][a] < due[b][a] ? 1 : 99;
                    if (step < 99 && cost[a] + step < cost[b]) {
                        cost[b] = cost[a] + step;
                        from[b] = a;
                        moved = b;
                    }
                }
            }
        }
        if (moved < 0) return false;
        int v = moved;
        for (int i = 0; i < 8; i++) v = from[v];
        int w = v;
        int before = Arrays.stream(left).flatMapToInt(Arrays::stream).sum();
        do {
            if (left[from[w]][w] > 0) left[from[w]][w]--;
            else left[w][from[w]]++;
            w = from[w];
        } while (w != v);
        if (Arrays.stream(left).flatMapToInt(Arrays::stream).sum() >= before) throw new IllegalStateException();
        return true;
    }

    int takings() {
        int[] balance = new int[8];
        for (Note n : living()) {
            balance[n.ower] -= n.minutes;
            balance[n.holder] += n.minutes;
        }
        return clear(balance, 0);
    }

    private static int clear(int[] balance, int from) {
        int i = from;
        while (i < 8 && balance[i] == 0) i++;
        if (i == 8) return 0;
        int best = 99;
        for (int j = i + 1; j < 8; j++) {
            if (balance[j] == 0 || balance[i] > 0 == balance[j] > 0) continue;
            balance[j] += balance[i];
            best = Math.min(best, 1 + clear(balance, i + 1));
            balance[j] -= balance[i];
        }
        return best;
    }

    int end(int p, int minutes, int weight) {
        if (!in(p, 0, 7) || !in(minutes, 0, 300) || !in(weight, 1, 20) || ends.get(p).size() == 5) return -1;
        ends.get(p).add(new int[] {minutes, weight});
        return ends.get(p).size();
    }

    boolean bridge(int s1, int all1, int more1) {
        if (!in(all1, 1, 100) || !in(s1, 0, all1) || !in(more1, 0, 600)) return false;
        s = s1;
        all = all1;
        more = more1;
        return true;
    }

    boolean crosses(int p, boolean is) {
        if (!in(p, 0, 7) || crosses[p] == is) return false;
        crosses[p] = is;
        return true;
    }

    private List<int[]> way(int p) {
        return ends.get(p).isEmpty() ? List.of(new int[] {0, 1}) : ends.get(p);
    }

    private int longer(int p, boolean shut) {
        return shut && crosses[p] ? more : 0;
    }

    int lateIf(int p, int ahead, int what) {
        if (!in(p, 0, 7) || !in(ahead, 0, 600) || !in(what, 0, 1)) return -1;
        int up = 0;
        int down = 0;
        for (int i = 0; i < all; i++) {
            for (int[] e : way(p)) {
                down += e[1];
                if (e[0] + longer(p, i < s) > ahead) up += e[1];
            }
        }
        int d = up;
        for (int r = down; r != 0;) {
            int t = d % r;
            d = r;
            r = t;
        }
        return (what == 0 ? up : down) / d;
    }

    long hang(int people, int ahead, int k) {
        if (!in(people, 1, 255) || !in(ahead, 0, 600) || !in(k, 0, Integer.bitCount(people))) return -1;
        return (all - s) * hanging(people, 0, ahead, k, false) + s * hanging(people, 0, ahead, k, true);
    }

    private long hanging(int people, int p, int ahead, int k, boolean shut) {
        if (p == 8) return k == 0 ? 1 : 0;
        if ((people & 1 << p) == 0) return hanging(people, p + 1, ahead, k, shut);
        long late = 0;
        long not = 0;
        for (int[] e : way(p)) {
            if (e[0] + longer(p, shut) > ahead) late += e[1];
            else not += e[1];
        }
        return late * hanging(people, p + 1, ahead, k - 1, shut) + not * hanging(people, p + 1, ahead, k, shut);
    }

    private long alone(Meet k, int p, int coming, int price) {
        if (coming > k.minute) return (long) (coming - k.minute) * (k.all().size() - 1) * price;
        return (long) (k.minute - coming) * worth[p][Math.max(0, Math.min(23, coming / 60))];
    }

    long cost(int m, int p, int ahead, int price) {
        if (meet(m) == null || !meet(m).of(p) || !in(ahead, -60, 600) || !in(price, 0, 99)) return -1;
        long sum = 0;
        for (int b = 0; b < 2; b++) {
            for (int[] e : way(p)) {
                int coming = meet(m).minute - ahead + e[0] + longer(p, b == 1);
                sum += (b == 1 ? s : all - s) * e[1] * alone(meet(m), p, coming, price);
            }
        }
        return sum;
    }

    private static int best(long[] costs) {
        int best = 0;
        for (int i = 1; i < costs.length; i++) if (costs[i] < costs[best]) best = i;
        return best;
    }

    int out(int m, int p, int price) {
        if (cost(m, p, 0, price) < 0) return -1;
        long[] costs = new long[601];
        for (int i = 0; i <= 600; i++) costs[i] = cost(m, p, i, price);
        return best(costs);
    }

    long two(int a, int b, int p, int stays, int ahead, int price) {
        if (meet(a) == null || meet(b) == null || !meet(a).of(p) || !meet(b).of(p)) return -1;
        if (meet(a).day != meet(b).day || meet(b).minute <= meet(a).minute) return -1;
        if (!in(stays, 0, 600) || !in(ahead, -60, 600) || !in(price, 0, 99)) return -1;
        long sum = 0;
        for (int br = 0; br < 2; br++) {
            for (int[] e : way(p)) {
                for (int[] f : way(p)) {
                    int coming = meet(a).minute - ahead + e[0] + longer(p, br == 1);
                    int next = Math.max(coming, meet(a).minute) + stays + f[0] + longer(p, br == 1);
                    long both = alone(meet(a), p, coming, price) + alone(meet(b), p, next, price);
                    sum += (br == 1 ? s : all - s) * e[1] * f[1] * both;
                }
            }
        }
        return sum;
    }

    int outTwo(int a, int b, int p, int stays, int price) {
        if (two(a, b, p, stays, 0, price) < 0) return -1;
        long[] costs = new long[601];
        for (int i = 0; i <= 600; i++) costs[i] = two(a, b, p, stays, i, price);
        return best(costs);
    }

    private long together(Meet k, List<Integer> who, int[] ahead, int asked, int price, boolean shut,
                          int at, int[] coming, long weight) {
        if (at == who.size()) {
            int begin = Math.max(k.minute, Arrays.stream(coming).max().getAsInt());
            long cost = (long) (begin - coming[asked]) * worth[who.get(asked)][k.minute / 60];
            for (int i = 0; i < coming.length; i++) {
                if (i != asked) cost += (long) Math.max(0, coming[asked] - Math.max(coming[i], k.minute)) * price;
            }
            return weight * cost;
        }
        long sum = 0;
        for (int[] e : way(who.get(at))) {
            coming[at] = k.minute - ahead[at] + e[0] + longer(who.get(at), shut);
            sum += together(k, who, ahead, asked, price, shut, at + 1, coming, weight * e[1]);
        }
        return sum;
    }

    private int[] turns(Meet k, int price, int[] ahead) {
        List<Integer> who = k.all();
        for (int turn = 1; turn <= 30; turn++) {
            int[] before = ahead.clone();
            for (int i = 0; i < ahead.length; i++) {
                long[] costs = new long[25];
                for (int c = 0; c < 25; c++) {
                    ahead[i] = 5 * c;
                    int[] coming = new int[ahead.length];
                    costs[c] = together(k, who, ahead, i, price, false, 0, coming, all - s)
                        + together(k, who, ahead, i, price, true, 0, coming, s);
                }
                ahead[i] = 5 * best(costs);
            }
            if (Arrays.equals(before, ahead)) return new int[] {turn};
        }
        return new int[] {-2};
    }

    int rest(int m, int price, int what) {
        Meet k = meet(m);
        if (k == null || !in(price, 0, 99) || k.all().size() > 4 || what != -1 && !k.of(what)) return -3;
        int[] ahead = new int[k.all().size()];
        int turns = turns(k, price, ahead)[0];
        return turns < 0 || what < 0 ? turns : ahead[k.all().indexOf(what)];
    }

    int lost() {
        int sum = 0;
        for (Meet k : meets) {
            if (k.settled) for (int p : k.all()) sum += k.begins() - Math.max(k.minute, k.came[p]);
        }
        return sum;
    }

    boolean seed(int n) {
        if (!in(n, 0, 65535)) return false;
        x = n;
        return true;
    }

    int draw(int m, int ahead) {
        if (meet(m) == null || meet(m).settled || !in(ahead, 0, 600)) return -1;
        IntBinaryOperator next = (a, b) -> (int) ((25173L * a + 13849) % b);
        x = next.applyAsInt(x, 65536);
        boolean shut = x % all < s;
        for (int p : meet(m).all()) {
            x = next.applyAsInt(x, 65536);
            List<Integer> each = new ArrayList<>();
            for (int[] e : way(p)) for (int i = 0; i < e[1]; i++) each.add(e[0]);
            int coming = meet(m).minute - ahead + each.get(x % each.size()) + longer(p, shut);
            meet(m).came[p] = Math.max(0, Math.min(1439, coming));
        }
        return shut ? 1 : 0;
    }

    int check(int n) {
        if (n < 0 || n > 25 || 16 * n > tape.size()) return -2;
        List<Integer> told = new ArrayList<>();
        for (int i = 0; i < 4 * n; i++) {
            int w = 0;
            for (int k = 0; k < 4; k++) w = w * 256 + tape.get(4 * i + k);
            told.add(w);
        }
        tape.clear();
        List<Integer> due = new ArrayList<>();
        for (int i = 0; i < notes.size(); i++) {
            Note note = notes.get(i);
            if (live(i)) due.addAll(List.of(i, note.ower, note.holder, note.minutes));
        }
        for (int i = 0; i < told.size(); i++) {
            if (i >= due.size() || !told.get(i).equals(due.get(i))) return i;
        }
        return told.size() < due.size() ? told.size() : -1;
    }

    int count(int what) {
        if (in(what, 0, 6)) {
            return new int[] {now, meets.size(), notes.size(), clauses, tape.size(), x,
                (int) meets.stream().filter(k -> k.settled).count()}[what];
        }
        if (in(what, 10, 17)) return ends.get(what - 10).size();
        return meet(what - 20) == null ? -1 : meet(what - 20).minute;
    }
}
