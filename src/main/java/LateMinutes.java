import java.util.Arrays;

/** Late minutes: who kept whom waiting, what is owed for it, and when to set out. */
public final class LateMinutes {
    public static final int NONE = -1;

    private static final int PEOPLE = 8;
    private static final int HOURS = 24;
    private static final int HOUR_MINUTES = 60;
    private static final int DAY_MINUTES = 1440;
    private static final int DAYS = 100;
    private static final int MEETINGS = 24;
    private static final int NOTES = 60;
    private static final int ENDS = 5;
    private static final int TAPE_BYTES = 400;
    private static final int WORD_BYTES = 4;
    private static final int CHECK_WORDS = 4;
    private static final int LAW_BYTES = 200;
    private static final int CLAUSES = 14;
    private static final int MOST_OPEN = 6;
    private static final int MOST_DIGITS = 5;
    private static final int LETTERS = 26;
    private static final int MOST_WORTH = 99;
    private static final int MOST_PRICE = 99;
    private static final int MOST_AHEAD = 600;
    private static final int MOST_BEHIND = 60;
    private static final int MOST_STAY = 600;
    private static final int CALL_DAYS = 7;
    private static final int MOST_OWED = 1440;
    private static final int MOST_HUNDREDTHS = 100;
    private static final int MOST_LAPSE = 100;
    private static final int MOST_X = 65535;
    private static final int REST_PEOPLE = 4;
    private static final int REST_STEP = 5;
    private static final int REST_CHOICES = 25;
    private static final int REST_TURNS = 30;
    private static final int STATES = 2;
    private static final int SHUT = 1;
    private static final int NOT_SO = -2;
    private static final int NO_SUCH = -3;
    private static final int NO_NOTE = -1000;

    private final Tape tape;
    private final LawReader reader;
    private final People people;
    private final Meetings meetings;
    private final Notes notes;
    private final Striking striking;
    private final Ways ways;
    private final Rest rest;
    private int now;

    public LateMinutes() {
        tape = new Tape();
        reader = new LawReader();
        people = new People();
        meetings = new Meetings(people);
        notes = new Notes();
        striking = new Striking();
        ways = new Ways(people);
        rest = new Rest(people, ways);
        now = 0;
    }

    public boolean now(int day) {
        if (!within(day, now, DAYS - 1)) return false;
        // What an hour holds is counted for each day anew.
        if (day > now) people.emptyHours();
        now = day;
        return true;
    }

    public boolean worth(int p, int hour, int n) {
        if (!isPerson(p) || !within(hour, 0, HOURS - 1) || !within(n, 0, MOST_WORTH)) return false;
        people.setWorth(p, hour, n);
        return true;
    }

    public int meeting(int day, int minute, int people) {
        if (!within(day, 0, DAYS - 1) || !within(minute, 0, DAY_MINUTES - 1)) return NONE;
        if (!within(people, 1, (1 << PEOPLE) - 1) || Integer.bitCount(people) < 2) return NONE;
        return meetings.add(day, minute, people);
    }

    public boolean came(int m, int p, int minute) {
        Meeting meeting = meetings.find(m);
        if (meeting == null || meeting.isSettled() || !meeting.includes(p)) return false;
        if (!within(minute, 0, DAY_MINUTES - 1)) return false;
        meeting.tell(p, minute);
        return true;
    }

    public int feed(int a, int b, int c, int d, int e) {
        if (tape.length() + 5 * WORD_BYTES > TAPE_BYTES) return NONE;
        tape.put(a);
        tape.put(b);
        tape.put(c);
        tape.put(d);
        tape.put(e);
        return tape.length();
    }

    public int law(int n) {
        if (!within(n, 1, LAW_BYTES) || n > tape.length()) return NONE;
        int answer = reader.read(tape, n);
        tape.empty();
        return answer;
    }

    public int begins(int m) {
        Meeting meeting = meetings.find(m);
        return meeting == null ? NONE : meeting.start();
    }

    public int keeps(int m, int x, int y) {
        Meeting meeting = meetings.find(m);
        if (meeting == null || x == y) return NONE;
        if (meeting.comingOf(x) == NONE || meeting.comingOf(y) == NONE) return NONE;
        return meeting.waitFor(x, y);
    }

    public int kept(int m, int x, int what) {
        Meeting meeting = meetings.find(m);
        if (meeting == null || meeting.comingOf(x) == NONE || !within(what, 0, 1)) return NONE;
        int by = meetings.keptBy(m, x);
        if (by == NONE) return NOT_SO;
        return what == 0 ? by : meetings.keeperAt(by);
    }

    public int owes(int m, int x, int y, int what) {
        if (!isCase(m, x, y) || !within(what, 0, 2)) return NONE;
        int[] facts = meetings.gather(m, x, y);
        if (what == 0) return minutesOwed(facts);
        return what == 1 ? hundredths(facts) : daysToLapse(facts);
    }

    public int chain(int m, int x, int y, int what) {
        if (!isCase(m, x, y)) return NONE;
        followChain(m, x, y);
        if (what == 0) return meetings.payers();
        if (within(what, 10, 19)) return meetings.payerAt(what - 10);
        return what < 20 ? NONE : meetings.paidAt(what - 20);
    }

    public int settle(int m) {
        Meeting meeting = meetings.find(m);
        if (meeting == null || meeting.isSettled() || meeting.day > now || meeting.start() == NONE) return NONE;
        int before = notes.length();
        for (int x = 0; x < PEOPLE; x++) {
            for (int y = 0; y < PEOPLE; y++) {
                if (isCase(m, x, y) && !noteChain(y, followChain(m, x, y))) {
                    notes.dropFrom(before);
                    return NOT_SO;
                }
            }
        }
        meeting.close();
        return notes.length() - before;
    }

    public int noteIs(int i, int what) {
        if (!notes.holds(i)) return NO_NOTE;
        switch (what) {
            case 0: return notes.owerOf(i);
            case 1: return notes.holderOf(i);
            case 2: return notes.minutesOf(i);
            case 3: return notes.madeOn(i);
            case 4: return notes.lapsesOn(i);
            case 5: return notes.isLive(i, now) ? 1 : 0;
            default: return NO_NOTE;
        }
    }

    public boolean hand(int i, int p) {
        if (!notes.isLive(i, now) || !isPerson(p) || notes.holderOf(i) == p) return false;
        notes.handTo(i, p);
        return true;
    }

    public int cut(int i, int minutes) {
        if (!notes.isLive(i, now) || minutes < 1 || notes.minutesOf(i) <= minutes) return NONE;
        return notes.split(i, minutes);
    }

    public int take(int i, int minutes, int hour) {
        if (!notes.isLive(i, now) || !within(hour, 0, HOURS - 1)) return NONE;
        if (!within(minutes, 1, HOUR_MINUTES) || notes.minutesOf(i) < minutes) return NONE;
        int giver = notes.owerOf(i);
        int taker = notes.holderOf(i);
        if (people.givenIn(giver, hour) + minutes > HOUR_MINUTES) return NONE;
        if (people.takenIn(taker, hour) + minutes > HOUR_MINUTES) return NONE;
        people.countTaking(giver, taker, hour, minutes);
        notes.lessen(i, minutes);
        return notes.minutesOf(i);
    }

    public int owed(int x, int y) {
        if (!within(x, NONE, PEOPLE - 1) || !within(y, NONE, PEOPLE - 1)) return NONE;
        if (x == y && x != NONE) return NONE;
        return notes.sumOf(x, y, now);
    }

    public long called(int y, int days) {
        if (!isPerson(y) || !within(days, 0, CALL_DAYS - 1)) return NONE;
        return notes.callIn(y, days, now, people);
    }

    public int round() {
        striking.load(notes, now);
        return striking.leastLeft();
    }

    public int takings() {
        striking.load(notes, now);
        return striking.fewestPayments();
    }

    public int end(int p, int minutes, int weight) {
        if (!isPerson(p) || !within(minutes, 0, 300) || !within(weight, 1, 20)) return NONE;
        return ways.tell(p, minutes, weight);
    }

    public boolean bridge(int s, int all, int more) {
        if (!within(all, 1, 100) || !within(s, 0, all) || !within(more, 0, 600)) return false;
        ways.setBridge(s, all, more);
        return true;
    }

    public boolean crosses(int p, boolean is) {
        if (!isPerson(p) || ways.isCrossing(p) == is) return false;
        ways.setCrossing(p, is);
        return true;
    }

    public int lateIf(int p, int ahead, int what) {
        if (!isPerson(p) || !within(ahead, 0, MOST_AHEAD) || !within(what, 0, 1)) return NONE;
        int above = ways.lateWeights(p, ahead);
        int below = ways.allOfBridge() * ways.weightsOf(p);
        return whole(what == 0 ? above : below, commonDivisor(above, below));
    }

    public long hang(int people, int ahead, int k) {
        if (!within(people, 1, (1 << PEOPLE) - 1) || !within(ahead, 0, MOST_AHEAD)) return NONE;
        if (!within(k, 0, Integer.bitCount(people))) return NONE;
        return ways.lateTogether(people, ahead, k);
    }

    public long cost(int m, int p, int ahead, int price) {
        Meeting meeting = meetings.find(m);
        if (meeting == null || !meeting.includes(p) || !within(price, 0, MOST_PRICE)) return NONE;
        if (!within(ahead, -MOST_BEHIND, MOST_AHEAD)) return NONE;
        return ways.costOfOne(meeting, p, ahead, price);
    }

    public int out(int m, int p, int price) {
        Meeting meeting = meetings.find(m);
        if (meeting == null || !meeting.includes(p) || !within(price, 0, MOST_PRICE)) return NONE;
        int best = 0;
        long least = ways.costOfOne(meeting, p, 0, price);
        for (int ahead = 1; ahead <= MOST_AHEAD; ahead++) {
            long cost = ways.costOfOne(meeting, p, ahead, price);
            if (cost < least) {
                least = cost;
                best = ahead;
            }
        }
        return best;
    }

    public long two(int a, int b, int p, int stays, int ahead, int price) {
        Meeting first = meetings.find(a);
        Meeting second = meetings.find(b);
        if (first == null || second == null || !inRow(first, second, p)) return NONE;
        if (!within(stays, 0, MOST_STAY) || !within(price, 0, MOST_PRICE)) return NONE;
        if (!within(ahead, -MOST_BEHIND, MOST_AHEAD)) return NONE;
        return ways.costOfRow(first, second, p, stays, ahead, price);
    }

    public int outTwo(int a, int b, int p, int stays, int price) {
        Meeting first = meetings.find(a);
        Meeting second = meetings.find(b);
        if (first == null || second == null || !inRow(first, second, p)) return NONE;
        if (!within(stays, 0, MOST_STAY) || !within(price, 0, MOST_PRICE)) return NONE;
        int best = 0;
        long least = ways.costOfRow(first, second, p, stays, 0, price);
        for (int ahead = 1; ahead <= MOST_AHEAD; ahead++) {
            long cost = ways.costOfRow(first, second, p, stays, ahead, price);
            if (cost < least) {
                least = cost;
                best = ahead;
            }
        }
        return best;
    }

    public int rest(int m, int price, int what) {
        Meeting meeting = meetings.find(m);
        if (meeting == null || !within(price, 0, MOST_PRICE) || meeting.many() > REST_PEOPLE) return NO_SUCH;
        if (what != NONE && !meeting.includes(what)) return NO_SUCH;
        int turns = rest.comeToRest(meeting, price);
        return what == NONE || turns == NOT_SO ? turns : rest.aheadOf(what);
    }

    public int lost() {
        return meetings.waitedAtSettled();
    }

    public boolean seed(int x) {
        if (!within(x, 0, MOST_X)) return false;
        ways.setDrawn(x);
        return true;
    }

    public int draw(int m, int ahead) {
        Meeting meeting = meetings.find(m);
        if (meeting == null || meeting.isSettled() || !within(ahead, 0, MOST_AHEAD)) return NONE;
        return ways.drawComings(meeting, ahead);
    }

    public int check(int n) {
        if (!within(n, 0, TAPE_BYTES / (CHECK_WORDS * WORD_BYTES))) return NOT_SO;
        if (n * CHECK_WORDS * WORD_BYTES > tape.length()) return NOT_SO;
        int answer = notes.firstWrong(tape, n, now);
        tape.empty();
        return answer;
    }

    public int count(int what) {
        switch (what) {
            case 0: return now;
            case 1: return meetings.length();
            case 2: return notes.length();
            case 3: return reader.clauses();
            case 4: return tape.length();
            case 5: return ways.drawn();
            case 6: return meetings.settledOnes();
            default: break;
        }
        if (within(what, 10, 10 + PEOPLE - 1)) return ways.toldBy(what - 10);
        Meeting meeting = within(what, 20, 20 + MEETINGS - 1) ? meetings.find(what - 20) : null;
        return meeting == null ? NONE : meeting.minute;
    }

    /** The law is for two of a meeting, and only once all came: till then w and g are open. */
    private boolean isCase(int m, int x, int y) {
        Meeting meeting = meetings.find(m);
        if (meeting == null || x == y || !meeting.includes(x) || !meeting.includes(y)) return false;
        return meeting.start() != NONE;
    }

    private static boolean inRow(Meeting first, Meeting second, int p) {
        if (!first.includes(p) || !second.includes(p)) return false;
        return first.day == second.day && first.minute < second.minute;
    }

    private int minutesOwed(int[] facts) {
        return reader.current().amount('o', MOST_OWED, facts);
    }

    private int hundredths(int[] facts) {
        return reader.current().amount('p', MOST_HUNDREDTHS, facts);
    }

    private int daysToLapse(int[] facts) {
        return reader.current().amount('l', MOST_LAPSE, facts);
    }

    private int[] followChain(int m, int x, int y) {
        int[] facts = meetings.gather(m, x, y);
        meetings.follow(m, x, minutesOwed(facts), hundredths(facts));
        return facts;
    }

    /** False where there is no room for all: who asks takes back what was made. */
    private boolean noteChain(int y, int[] facts) {
        int days = daysToLapse(facts);
        int lapses = days == 0 ? NONE : now + days;
        for (int place = 0; place < meetings.payers(); place++) {
            int payer = meetings.payerAt(place);
            int minutes = meetings.paidAt(place);
            if (minutes <= 0 || payer == y) continue;
            if (notes.add(payer, y, minutes, now, lapses) == NONE) return false;
        }
        return true;
    }

    private static boolean within(int value, int least, int most) {
        return value >= least && value <= most;
    }

    private static boolean isPerson(int p) {
        return p >= 0 && p < PEOPLE;
    }

    private static int held(int value, int least, int most) {
        return Math.max(least, Math.min(most, value));
    }

    private static int whole(int value, int divisor) {
        return divisor == 0 ? 0 : value / divisor;
    }

    private static int leftOver(int value, int divisor) {
        return divisor == 0 ? 0 : value % divisor;
    }

    private static int commonDivisor(int a, int b) {
        int larger = a;
        int smaller = b;
        // The remainders of Euclid fall to 0 within some fifty steps of an int.
        for (int step = 0; step < 64 && smaller != 0; step++) {
            int remainder = leftOver(larger, smaller);
            larger = smaller;
            smaller = remainder;
        }
        return larger;
    }

    /** The bytes that were fed and not used yet. */
    private static final class Tape {
        private final byte[] bytes = new byte[TAPE_BYTES];
        private int size;

        int length() {
            return size;
        }

        void put(int word) {
            for (int shift = 24; shift >= 0; shift -= 8) {
                if (size >= 0 && size < bytes.length) {
                    bytes[size] = (byte) (word >> shift);
                    size++;
                }
            }
        }

        void empty() {
            size = 0;
        }

        int byteAt(int place) {
            return place >= 0 && place < size && place < bytes.length ? bytes[place] & 255 : NONE;
        }

        int wordAt(int place) {
            int word = 0;
            for (int i = 0; i < WORD_BYTES; i++) {
                word = word << 8 | byteAt(place * WORD_BYTES + i) & 255;
            }
            return word;
        }
    }

    /** A law as postfix code: numbers as -1 less the number, letters and signs as they are. */
    private static final class Law {
        // No int is as large, so it can go along with them.
        private static final long REFUSED = 1L << 40;
        private static final long HOLDS = 1;

        private final int[] letters = new int[CLAUSES];
        private final int[] amountFrom = new int[CLAUSES];
        private final int[] conditionFrom = new int[CLAUSES];
        private final int[] conditionTo = new int[CLAUSES];
        private final int[] code = new int[LAW_BYTES];
        // Six that are open hold back two values each, and a comparison one: 16 at most.
        private final long[] stack = new long[32];
        private int clauses;
        private int size;

        void empty() {
            clauses = 0;
            size = 0;
        }

        int length() {
            return clauses;
        }

        void emit(int word) {
            if (size < 0 || size >= code.length) return;
            code[size] = word;
            size++;
        }

        void openClause(int letter) {
            if (clauses < 0 || clauses >= CLAUSES) return;
            letters[clauses] = letter;
            amountFrom[clauses] = size;
        }

        void openCondition() {
            if (clauses >= 0 && clauses < CLAUSES) conditionFrom[clauses] = size;
        }

        void closeClause() {
            if (clauses < 0 || clauses >= CLAUSES) return;
            conditionTo[clauses] = size;
            clauses++;
        }

        int amount(int letter, int most, int[] facts) {
            for (int i = 0; i < clauses && i < CLAUSES; i++) {
                if (letters[i] != letter || reckon(conditionFrom[i], conditionTo[i], facts) != HOLDS) continue;
                long amount = reckon(amountFrom[i], conditionFrom[i], facts);
                return amount == REFUSED ? 0 : held((int) amount, 0, most);
            }
            return 0;
        }

        private long reckon(int from, int to, int[] facts) {
            int depth = 0;
            for (int i = Math.max(from, 0); i < to && i < code.length; i++) {
                int word = code[i];
                boolean isValue = word < 0 || isFact(word);
                if (isValue && depth < stack.length) {
                    stack[depth] = word < 0 ? -1 - word : valueOf(word, facts);
                    depth++;
                } else if (word == '!' && depth >= 1) {
                    stack[depth - 1] = not(stack[depth - 1]);
                } else if (depth >= 2) {
                    depth--;
                    stack[depth - 1] = join(word, stack[depth - 1], stack[depth]);
                }
            }
            return depth == 1 ? stack[0] : REFUSED;
        }

        private static int valueOf(int letter, int[] facts) {
            int place = letter - 'a';
            return place >= 0 && place < facts.length ? facts[place] : 0;
        }

        private static long not(long value) {
            return value == REFUSED ? REFUSED : HOLDS - value;
        }

        /** What stands right of & and | matters only if the left one has not told all. */
        private static long join(int sign, long left, long right) {
            if (sign == '&') return left == HOLDS ? right : left;
            if (sign == '|') return left == 0 ? right : left;
            if (left == REFUSED || right == REFUSED) return REFUSED;
            int a = (int) left;
            int b = (int) right;
            switch (sign) {
                case '+': return a + b;
                case '-': return a - b;
                case '*': return a * b;
                case '/': return b == 0 ? REFUSED : a / b;
                case '%': return b == 0 ? REFUSED : a % b;
                case '<': return a < b ? HOLDS : 0;
                case '>': return a > b ? HOLDS : 0;
                case '=': return a == b ? HOLDS : 0;
                default: return REFUSED;
            }
        }

        static boolean isFact(int sign) {
            switch (sign) {
                case 'w': case 'a': case 'b': case 'n': case 'g': case 'k':
                case 'r': case 'h': case 'd': case 'x': case 'y': case 'v':
                    return true;
                default:
                    return false;
            }
        }
    }

    /** Reads a law from the tape, from the left, up to its first fault. */
    private static final class LawReader {
        private static final int CANNOT_STAND = 1;
        private static final int SIXTH_DIGIT = 2;
        private static final int CLAUSE_TOO_MANY = 4;
        private static final int OPEN_TOO_MANY = 5;

        private final byte[] text = new byte[LAW_BYTES];
        private Law current = new Law();
        private Law next = new Law();
        private int length;
        private int place;
        private int fault;

        Law current() {
            return current;
        }

        int clauses() {
            return current.length();
        }

        /** The number of clauses, or the fault; the law that stands changes only without one. */
        int read(Tape tape, int bytes) {
            length = held(bytes, 0, text.length);
            for (int i = 0; i < length && i < text.length; i++) text[i] = (byte) tape.byteAt(i);
            place = 0;
            fault = 0;
            next.empty();
            readClause();
            for (int i = 0; i < CLAUSES && fault == 0 && place < length; i++) {
                pass(';');
                readClause();
            }
            if (fault != 0) return -1000 * fault - place;
            Law before = current;
            current = next;
            next = before;
            return current.length();
        }

        private void readClause() {
            int letter = sign();
            if (letter != 'o' && letter != 'p' && letter != 'l') {
                stop(CANNOT_STAND);
                return;
            }
            if (next.length() >= CLAUSES) {
                stop(CLAUSE_TOO_MANY);
                return;
            }
            place++;
            next.openClause(letter);
            readSum(0);
            next.openCondition();
            pass('(');
            readChoice(1);
            pass(')');
            next.closeClause();
        }

        /** Parts with | between; each is emitted as soon as its pieces with & are. */
        private void readChoice(int open) {
            boolean isSecond = false;
            readPiece(open);
            for (int i = 0; i < LAW_BYTES && (sign() == '|' || sign() == '&'); i++) {
                int sign = sign();
                place++;
                if (sign == '|' && isSecond) next.emit('|');
                if (sign == '|') isSecond = true;
                readPiece(open);
                if (sign == '&') next.emit('&');
            }
            if (isSecond) next.emit('|');
        }

        private void readPiece(int open) {
            int sign = sign();
            if (sign == '!') {
                readDenied(open);
                return;
            }
            if (sign == '(') {
                if (!opens(open)) return;
                readChoice(open + 1);
                pass(')');
                return;
            }
            readSum(open);
            int comparison = sign();
            if (comparison != '<' && comparison != '>' && comparison != '=') {
                stop(CANNOT_STAND);
                return;
            }
            place++;
            readSum(open);
            next.emit(comparison);
        }

        private void readDenied(int open) {
            if (!opens(open)) return;
            readPiece(open + 1);
            next.emit('!');
        }

        /** Terms with + or - between; each is emitted as soon as its factors are. */
        private void readSum(int open) {
            int adding = NONE;
            readFactor(open);
            for (int i = 0; i < LAW_BYTES && isOperator(sign()); i++) {
                int sign = sign();
                place++;
                boolean isTerm = sign == '+' || sign == '-';
                if (isTerm && adding != NONE) next.emit(adding);
                if (isTerm) adding = sign;
                readFactor(open);
                if (!isTerm) next.emit(sign);
            }
            if (adding != NONE) next.emit(adding);
        }

        private void readFactor(int open) {
            int sign = sign();
            if (sign == '[') {
                if (!opens(open)) return;
                readSum(open + 1);
                pass(']');
            } else if (isDigit(sign)) {
                int value = 0;
                for (int i = 0; i < MOST_DIGITS && isDigit(sign()); i++) {
                    value = value * 10 + sign() - '0';
                    place++;
                }
                if (isDigit(sign())) stop(SIXTH_DIGIT);
                next.emit(-1 - value);
            } else if (Law.isFact(sign)) {
                place++;
                next.emit(sign);
            } else {
                stop(CANNOT_STAND);
            }
        }

        /** Goes into one more ( [ or !; this also bounds the recursion. */
        private boolean opens(int open) {
            if (open >= MOST_OPEN) {
                stop(OPEN_TOO_MANY);
                return false;
            }
            place++;
            return true;
        }

        private void pass(int sign) {
            if (sign() == sign) place++;
            else stop(CANNOT_STAND);
        }

        /** None at the end, and none behind a fault: so nothing goes on after one. */
        private int sign() {
            if (fault != 0 || place < 0 || place >= length || place >= text.length) return NONE;
            return text[place] & 255;
        }

        private void stop(int number) {
            if (fault == 0) fault = number;
        }

        private static boolean isOperator(int sign) {
            return sign == '+' || sign == '-' || sign == '*' || sign == '/' || sign == '%';
        }

        private static boolean isDigit(int sign) {
            return sign >= '0' && sign <= '9';
        }
    }

    /** What a minute of each person is worth, and what the hours of today hold already. */
    private static final class People {
        private final int[] worths = new int[PEOPLE * HOURS];
        private final int[] given = new int[PEOPLE * HOURS];
        private final int[] taken = new int[PEOPLE * HOURS];

        People() {
            Arrays.fill(worths, 1);
        }

        private static int slot(int p, int hour) {
            return p >= 0 && p < PEOPLE && hour >= 0 && hour < HOURS ? p * HOURS + hour : NONE;
        }

        private static void add(int[] row, int slot, int more) {
            if (slot >= 0 && slot < row.length) row[slot] += more;
        }

        void setWorth(int p, int hour, int n) {
            int slot = slot(p, hour);
            if (slot >= 0 && slot < worths.length) worths[slot] = n;
        }

        int worthAt(int p, int hour) {
            int slot = slot(p, hour);
            return slot >= 0 && slot < worths.length ? worths[slot] : 0;
        }

        int givenIn(int p, int hour) {
            int slot = slot(p, hour);
            return slot >= 0 && slot < given.length ? given[slot] : 0;
        }

        int takenIn(int p, int hour) {
            int slot = slot(p, hour);
            return slot >= 0 && slot < taken.length ? taken[slot] : 0;
        }

        void countTaking(int giver, int taker, int hour, int minutes) {
            add(given, slot(giver, hour), minutes);
            add(taken, slot(taker, hour), minutes);
        }

        void emptyHours() {
            Arrays.fill(given, 0);
            Arrays.fill(taken, 0);
        }
    }

    /** One meeting, and who came to it when. */
    private static final class Meeting {
        private final int day;
        private final int minute;
        private final int people;
        private final int[] comings = new int[PEOPLE];
        private boolean settled;

        Meeting(int day, int minute, int people) {
            this.day = day;
            this.minute = minute;
            this.people = people;
            Arrays.fill(comings, NONE);
        }

        boolean includes(int p) {
            return p >= 0 && p < PEOPLE && (people >> p & 1) == 1;
        }

        int many() {
            return Integer.bitCount(people);
        }

        int hour() {
            return minute / HOUR_MINUTES;
        }

        boolean isSettled() {
            return settled;
        }

        void close() {
            settled = true;
        }

        void tell(int p, int coming) {
            if (p >= 0 && p < comings.length) comings[p] = coming;
        }

        int comingOf(int p) {
            return includes(p) && p < comings.length ? comings[p] : NONE;
        }

        /** None while somebody is awaited: he may come last. */
        int start() {
            int latest = minute;
            for (int p = 0; p < comings.length; p++) {
                if (!includes(p)) continue;
                if (comings[p] == NONE) return NONE;
                latest = Math.max(latest, comings[p]);
            }
            return latest;
        }

        /** Of like ones the lowest, so only who came later takes the place of another. */
        int keeper() {
            int last = NONE;
            int latest = NONE;
            for (int p = 0; p < comings.length; p++) {
                if (includes(p) && comings[p] > latest) {
                    last = p;
                    latest = comings[p];
                }
            }
            return last;
        }

        int lateness(int p) {
            return Math.max(0, comingOf(p) - minute);
        }

        int waitFor(int x, int y) {
            return Math.max(0, comingOf(x) - Math.max(comingOf(y), minute));
        }

        int laterThan(int x) {
            int coming = comingOf(x);
            int later = 0;
            for (int p = 0; p < comings.length; p++) {
                if (includes(p) && comings[p] > coming) later++;
            }
            return later;
        }

        int waitedByAll() {
            int start = start();
            int sum = 0;
            for (int p = 0; p < comings.length; p++) {
                if (includes(p)) sum += start - Math.max(minute, comings[p]);
            }
            return sum;
        }
    }

    /** All meetings; who was kept by which of them, and the chain that pays. */
    private static final class Meetings {
        private final People people;
        private final Meeting[] list = new Meeting[MEETINGS];
        // What the letters of the law stand for in the case last asked about, a first.
        private final int[] facts = new int[LETTERS];
        // Each next one in a chain is of an earlier meeting.
        private final int[] payers = new int[MEETINGS];
        private final int[] paid = new int[MEETINGS];
        private int size;
        private int chained;

        Meetings(People people) {
            this.people = people;
        }

        int length() {
            return size;
        }

        Meeting find(int m) {
            return m >= 0 && m < size && m < list.length ? list[m] : null;
        }

        int add(int day, int minute, int bits) {
            if (size < 0 || size >= list.length) return NONE;
            list[size] = new Meeting(day, minute, bits);
            size++;
            return size - 1;
        }

        int settledOnes() {
            int settled = 0;
            for (int m = 0; m < list.length; m++) {
                Meeting meeting = find(m);
                if (meeting != null && meeting.isSettled()) settled++;
            }
            return settled;
        }

        int waitedAtSettled() {
            int sum = 0;
            for (int m = 0; m < list.length; m++) {
                Meeting meeting = find(m);
                if (meeting != null && meeting.isSettled()) sum += meeting.waitedByAll();
            }
            return sum;
        }

        int keeperAt(int m) {
            Meeting meeting = find(m);
            return meeting == null ? NONE : meeting.keeper();
        }

        /** Gone through by numbers, so of like minutes the last one seen has the highest number. */
        int keptBy(int m, int x) {
            Meeting asked = find(m);
            if (asked == null || asked.lateness(x) == 0) return NONE;
            int found = NONE;
            int latest = NONE;
            for (int i = 0; i < list.length; i++) {
                Meeting other = find(i);
                if (other != null && other.minute >= latest && didKeep(other, asked, x)) {
                    found = i;
                    latest = other.minute;
                }
            }
            return found;
        }

        private static boolean didKeep(Meeting other, Meeting asked, int x) {
            if (other.day != asked.day || other.minute >= asked.minute || !other.includes(x)) return false;
            int start = other.start();
            int behind = start - other.minute;
            if (start == NONE || behind <= 0 || other.keeper() == x) return false;
            return asked.comingOf(x) - behind <= asked.minute;
        }

        int[] gather(int m, int x, int y) {
            Meeting meeting = find(m);
            if (meeting == null) return facts;
            putFact('w', meeting.waitFor(x, y));
            putFact('a', meeting.lateness(x));
            putFact('b', meeting.lateness(y));
            putFact('n', meeting.many());
            putFact('g', meeting.start() - meeting.minute);
            putFact('k', keptBy(m, x) == NONE ? 0 : 1);
            putFact('r', meeting.laterThan(x));
            putFact('h', meeting.hour());
            putFact('d', meeting.day);
            putFact('x', x);
            putFact('y', y);
            putFact('v', people.worthAt(y, meeting.hour()));
            return facts;
        }

        private void putFact(int letter, int value) {
            int place = letter - 'a';
            if (place >= 0 && place < facts.length) facts[place] = value;
        }

        /** Goes back in the day: who kept somebody was perhaps kept himself. */
        void follow(int m, int x, int minutes, int hundredths) {
            int meeting = m;
            int payer = x;
            int left = minutes;
            chained = 0;
            for (int place = 0; place < payers.length && place < paid.length; place++) {
                int by = keptBy(meeting, payer);
                int passed = by == NONE ? 0 : left * hundredths / MOST_HUNDREDTHS;
                payers[place] = payer;
                paid[place] = left - passed;
                chained = place + 1;
                if (passed == 0) return;
                payer = keeperAt(by);
                meeting = by;
                left = passed;
            }
        }

        int payers() {
            return chained;
        }

        int payerAt(int place) {
            return place >= 0 && place < chained && place < payers.length ? payers[place] : NONE;
        }

        int paidAt(int place) {
            return place >= 0 && place < chained && place < paid.length ? paid[place] : NONE;
        }
    }

    /** The notes, and what is owed by them. */
    private static final class Notes {
        private final int[] owers = new int[NOTES];
        private final int[] holders = new int[NOTES];
        private final int[] minutes = new int[NOTES];
        private final int[] made = new int[NOTES];
        private final int[] lapses = new int[NOTES];
        private final int[] free = new int[CALL_DAYS];
        private int size;

        int length() {
            return size;
        }

        boolean holds(int i) {
            return i >= 0 && i < size && i < NOTES;
        }

        int add(int ower, int holder, int many, int day, int lapse) {
            if (size < 0 || size >= NOTES) return NONE;
            owers[size] = ower;
            holders[size] = holder;
            minutes[size] = many;
            made[size] = day;
            lapses[size] = lapse;
            size++;
            return size - 1;
        }

        void dropFrom(int first) {
            size = held(first, 0, NOTES);
        }

        int owerOf(int i) {
            return holds(i) ? owers[i] : NONE;
        }

        int holderOf(int i) {
            return holds(i) ? holders[i] : NONE;
        }

        int minutesOf(int i) {
            return holds(i) ? minutes[i] : 0;
        }

        int madeOn(int i) {
            return holds(i) ? made[i] : NONE;
        }

        int lapsesOn(int i) {
            return holds(i) ? lapses[i] : NONE;
        }

        /** Of any day, since minutes are called in on days ahead, too. */
        boolean isLive(int i, int day) {
            return holds(i) && minutes[i] > 0 && (lapses[i] == NONE || day < lapses[i]);
        }

        void handTo(int i, int p) {
            if (!holds(i)) return;
            holders[i] = p;
            if (owers[i] == p) minutes[i] = 0;
        }

        int split(int i, int many) {
            if (!holds(i)) return NONE;
            int part = add(owers[i], holders[i], many, made[i], lapses[i]);
            if (part != NONE) minutes[i] -= many;
            return part;
        }

        void lessen(int i, int many) {
            if (holds(i)) minutes[i] -= many;
        }

        int sumOf(int ower, int holder, int day) {
            int sum = 0;
            for (int i = 0; i < size && i < NOTES; i++) {
                if (ower != NONE && owers[i] != ower || holder != NONE && holders[i] != holder) continue;
                if (isLive(i, day)) sum += minutes[i];
            }
            return sum;
        }

        /** The most that y can gain: the dearest hours first, as far as notes last till their days. */
        long callIn(int y, int days, int now, People people) {
            // Behind the last of all days there is none on which minutes could be taken.
            int last = Math.min(days, DAYS - 1 - now);
            for (int d = 0; d <= last && d < free.length; d++) free[d] = sumOf(NONE, y, now + d);
            long gain = 0;
            for (int worth = MOST_WORTH; worth > 0 && free[0] > 0; worth--) {
                for (int hour = 0; hour < HOURS; hour++) {
                    if (people.worthAt(y, hour) != worth) continue;
                    int room = HOUR_MINUTES - people.takenIn(y, hour);
                    for (int d = 0; d <= last && d < free.length; d++) {
                        gain += (long) worth * useOn(d, d == 0 ? room : HOUR_MINUTES);
                    }
                }
            }
            return gain;
        }

        /** What day d and the days behind it use is lacking on all days ahead of them, too. */
        private int useOn(int d, int room) {
            int used = room;
            for (int i = 0; i <= d && i < free.length; i++) used = Math.min(used, free[i]);
            for (int i = 0; i <= d && i < free.length; i++) free[i] -= used;
            return used;
        }

        /** A number too many is as wrong as one that is lacking: both are told at their place. */
        int firstWrong(Tape tape, int fours, int now) {
            int place = 0;
            for (int i = 0; i < size && i < NOTES; i++) {
                if (!isLive(i, now)) continue;
                if (place >= fours * CHECK_WORDS || tape.wordAt(place) != i) return place;
                if (tape.wordAt(place + 1) != owers[i]) return place + 1;
                if (tape.wordAt(place + 2) != holders[i]) return place + 2;
                if (tape.wordAt(place + 3) != minutes[i]) return place + 3;
                place += CHECK_WORDS;
            }
            return place < fours * CHECK_WORDS ? place : NONE;
        }
    }

    /** What is left of debts when all that goes round is struck, and how few payments clear them. */
    private static final class Striking {
        private static final int PAIRS = PEOPLE * PEOPLE;
        private static final int GROUPS = 1 << PEOPLE;
        private static final int FAR = 1000;
        // Each sending moves a minute at least, and all notes together have fewer.
        private static final int MOST_SENDINGS = NOTES * MOST_OWED + 1;

        private final int[] due = new int[PAIRS];
        private final int[] left = new int[PAIRS];
        private final int[] balance = new int[PEOPLE];
        private final int[] away = new int[PEOPLE];
        private final int[] from = new int[PEOPLE];
        private final int[] clear = new int[GROUPS];

        void load(Notes notes, int now) {
            Arrays.fill(due, 0);
            Arrays.fill(left, 0);
            Arrays.fill(balance, 0);
            for (int i = 0; i < notes.length() && i < NOTES; i++) {
                int ower = notes.owerOf(i);
                int holder = notes.holderOf(i);
                if (!notes.isLive(i, now) || !isPerson(ower) || !isPerson(holder)) continue;
                due[ower * PEOPLE + holder] += notes.minutesOf(i);
                balance[ower] += notes.minutesOf(i);
                balance[holder] -= notes.minutesOf(i);
            }
        }

        /** The balances sent along debts, each time by a shortest way: so least is left. */
        int leastLeft() {
            int sum = 0;
            for (int i = 0; i < MOST_SENDINGS; i++) {
                measure();
                int last = nearestTaker();
                if (last == NONE) return sum;
                sum += away[last] * send(last);
            }
            return sum;
        }

        private void measure() {
            for (int p = 0; p < PEOPLE; p++) {
                away[p] = balance[p] > 0 ? 0 : FAR;
                from[p] = NONE;
            }
            boolean changed = true;
            for (int turn = 0; turn < PEOPLE && changed; turn++) {
                changed = false;
                for (int x = 0; x < PEOPLE; x++) {
                    if (away[x] < FAR && widen(x)) changed = true;
                }
            }
        }

        private boolean widen(int x) {
            if (!isPerson(x)) return false;
            boolean changed = false;
            for (int y = 0; y < PEOPLE; y++) {
                if (room(x, y) <= 0 || away[x] + length(x, y) >= away[y]) continue;
                away[y] = away[x] + length(x, y);
                from[y] = x;
                changed = true;
            }
            return changed;
        }

        /** Going from x to y first takes back what is left from y to x. */
        private int length(int x, int y) {
            return leftFrom(y, x) > 0 ? -1 : 1;
        }

        private int room(int x, int y) {
            int back = leftFrom(y, x);
            return back > 0 ? back : dueFrom(x, y) - leftFrom(x, y);
        }

        private int leftFrom(int x, int y) {
            return isPerson(x) && isPerson(y) ? left[x * PEOPLE + y] : 0;
        }

        private int dueFrom(int x, int y) {
            return isPerson(x) && isPerson(y) ? due[x * PEOPLE + y] : 0;
        }

        private int nearestTaker() {
            int nearest = NONE;
            int least = FAR;
            for (int p = 0; p < PEOPLE; p++) {
                if (balance[p] < 0 && away[p] < least) {
                    nearest = p;
                    least = away[p];
                }
            }
            return nearest;
        }

        private int send(int last) {
            if (!isPerson(last)) return 0;
            int many = -balance[last];
            int y = last;
            for (int i = 0; i < PEOPLE && from[y] != NONE; i++) {
                int x = from[y];
                if (!isPerson(x)) return 0;
                many = Math.min(many, room(x, y));
                y = x;
            }
            many = Math.min(many, balance[y]);
            balance[y] -= many;
            balance[last] += many;
            moveAlong(last, many);
            return many;
        }

        private void moveAlong(int last, int many) {
            int y = last;
            for (int i = 0; i < PEOPLE && isPerson(y); i++) {
                int x = from[y];
                if (!isPerson(x)) return;
                if (leftFrom(y, x) > 0) left[y * PEOPLE + x] -= many;
                else left[x * PEOPLE + y] += many;
                y = x;
            }
        }

        /** Each group that is clear in itself saves one payment. */
        int fewestPayments() {
            for (int group = 1; group < clear.length; group++) {
                int sum = 0;
                int most = 0;
                for (int p = 0; p < PEOPLE; p++) {
                    int without = group & ~(1 << p);
                    if (without == group || without < 0 || without >= clear.length) continue;
                    sum += balance[p];
                    most = Math.max(most, clear[without]);
                }
                clear[group] = most + (sum == 0 ? 1 : 0);
            }
            return PEOPLE - clear[GROUPS - 1];
        }
    }

    /** The ways of people, the bridge, and what setting out costs one alone. */
    private static final class Ways {
        private final People people;
        private final int[] told = new int[PEOPLE];
        private final int[] minutes = new int[PEOPLE * ENDS];
        private final int[] weights = new int[PEOPLE * ENDS];
        private final int[] allWeights = new int[PEOPLE];
        private final boolean[] crossing = new boolean[PEOPLE];
        private final long[] late = new long[PEOPLE + 1];
        private int shut;
        private int all = 1;
        private int more;
        private int drawn = 1;

        Ways(People people) {
            this.people = people;
            // As long as no end is told, there is one of 0 minutes and weight 1.
            for (int p = 0; p < PEOPLE; p++) {
                weights[p * ENDS] = 1;
                allWeights[p] = 1;
            }
        }

        int tell(int p, int many, int weight) {
            if (!isPerson(p) || told[p] < 0 || told[p] >= ENDS) return NONE;
            minutes[p * ENDS + told[p]] = many;
            weights[p * ENDS + told[p]] = weight;
            allWeights[p] = told[p] == 0 ? weight : allWeights[p] + weight;
            told[p]++;
            return told[p];
        }

        int toldBy(int p) {
            return isPerson(p) ? told[p] : NONE;
        }

        int endsOf(int p) {
            return isPerson(p) ? Math.max(1, told[p]) : 0;
        }

        int weightOf(int p, int end) {
            return isPerson(p) && within(end, 0, ENDS - 1) ? weights[p * ENDS + end] : 0;
        }

        int weightsOf(int p) {
            return isPerson(p) ? allWeights[p] : 0;
        }

        int takes(int p, int end, int state) {
            if (!isPerson(p) || !within(end, 0, ENDS - 1)) return 0;
            return minutes[p * ENDS + end] + (state == SHUT && crossing[p] ? more : 0);
        }

        void setBridge(int s, int of, int longer) {
            shut = s;
            all = of;
            more = longer;
        }

        int allOfBridge() {
            return all;
        }

        int bridgeWeight(int state) {
            return state == SHUT ? shut : all - shut;
        }

        boolean isCrossing(int p) {
            return isPerson(p) && crossing[p];
        }

        void setCrossing(int p, boolean is) {
            if (isPerson(p)) crossing[p] = is;
        }

        int lateWeights(int p, int ahead) {
            int sum = 0;
            for (int state = 0; state < STATES; state++) sum += bridgeWeight(state) * lateEnds(p, ahead, state);
            return sum;
        }

        private int lateEnds(int p, int ahead, int state) {
            int sum = 0;
            for (int end = 0; end < endsOf(p); end++) {
                if (takes(p, end, state) > ahead) sum += weightOf(p, end);
            }
            return sum;
        }

        long lateTogether(int bits, int ahead, int k) {
            long sum = 0;
            for (int state = 0; state < STATES; state++) {
                countLate(bits, ahead, state);
                if (k >= 0 && k < late.length) sum += bridgeWeight(state) * late[k];
            }
            return sum;
        }

        /** Person by person, since the ends of eight ways meet in too many ways to go through them. */
        private void countLate(int bits, int ahead, int state) {
            Arrays.fill(late, 0);
            late[0] = 1;
            for (int p = 0; p < PEOPLE; p++) {
                if ((bits >> p & 1) == 0) continue;
                long lateOnes = lateEnds(p, ahead, state);
                long others = weightsOf(p) - lateOnes;
                for (int k = late.length - 1; k > 0; k--) late[k] = late[k] * others + late[k - 1] * lateOnes;
                late[0] *= others;
            }
        }

        private long costOfComing(Meeting meeting, int p, int coming, int price) {
            int early = meeting.minute - coming;
            if (early <= 0) return (long) -early * (meeting.many() - 1) * price;
            return (long) early * people.worthAt(p, held(coming / HOUR_MINUTES, 0, HOURS - 1));
        }

        private long costOfWay(Meeting meeting, int p, int start, int state, int price) {
            long sum = 0;
            for (int end = 0; end < endsOf(p); end++) {
                sum += weightOf(p, end) * costOfComing(meeting, p, start + takes(p, end, state), price);
            }
            return sum;
        }

        long costOfOne(Meeting meeting, int p, int ahead, int price) {
            long sum = 0;
            for (int state = 0; state < STATES; state++) {
                int weight = bridgeWeight(state);
                if (weight > 0) sum += weight * costOfWay(meeting, p, meeting.minute - ahead, state, price);
            }
            return sum;
        }

        long costOfRow(Meeting a, Meeting b, int p, int stay, int ahead, int price) {
            long sum = 0;
            for (int state = 0; state < STATES; state++) {
                int weight = bridgeWeight(state);
                if (weight > 0) sum += weight * costOfBoth(a, b, p, stay, a.minute - ahead, state, price);
            }
            return sum;
        }

        private long costOfBoth(Meeting a, Meeting b, int p, int stay, int start, int state, int price) {
            long sum = 0;
            long next = 0;
            int left = NONE;
            for (int end = 0; end < endsOf(p); end++) {
                int coming = start + takes(p, end, state);
                int leaving = Math.max(coming, a.minute) + stay;
                // By all ends that are in time he leaves at the same minute.
                if (leaving != left) next = costOfWay(b, p, leaving, state, price);
                left = leaving;
                // The first coming costs the same with each end of the second way.
                sum += weightOf(p, end) * (weightsOf(p) * costOfComing(a, p, coming, price) + next);
            }
            return sum;
        }

        int drawn() {
            return drawn;
        }

        void setDrawn(int x) {
            drawn = x;
        }

        private int drawNext() {
            drawn = (25173 * drawn + 13849) % (MOST_X + 1);
            return drawn;
        }

        int drawComings(Meeting meeting, int ahead) {
            int state = leftOver(drawNext(), all) < shut ? SHUT : 0;
            for (int p = 0; p < PEOPLE; p++) {
                if (!meeting.includes(p)) continue;
                int coming = meeting.minute - ahead + takes(p, drawEnd(p), state);
                meeting.tell(p, held(coming, 0, DAY_MINUTES - 1));
            }
            return state;
        }

        private int drawEnd(int p) {
            int behind = leftOver(drawNext(), weightsOf(p));
            int last = endsOf(p) - 1;
            for (int end = 0; end < last; end++) {
                behind -= weightOf(p, end);
                if (behind < 0) return end;
            }
            return last;
        }
    }

    /** Minutes with weights, each minute once. */
    private static final class Tally {
        private static final int MOST = 1 + REST_PEOPLE * ENDS;

        private final int[] minutes = new int[MOST];
        private final long[] weights = new long[MOST];
        private int size;

        void empty() {
            size = 0;
        }

        int length() {
            return size;
        }

        int minuteAt(int i) {
            return i >= 0 && i < size && i < MOST ? minutes[i] : 0;
        }

        long weightAt(int i) {
            return i >= 0 && i < size && i < MOST ? weights[i] : 0;
        }

        void add(int minute, long weight) {
            for (int i = 0; i < size && i < MOST; i++) {
                if (minutes[i] == minute) {
                    weights[i] += weight;
                    return;
                }
            }
            if (size < 0 || size >= MOST) return;
            minutes[size] = minute;
            weights[size] = weight;
            size++;
        }

        long above(int minute) {
            long sum = 0;
            for (int i = 0; i < size && i < MOST; i++) {
                if (minutes[i] > minute) sum += weights[i] * (minutes[i] - minute);
            }
            return sum;
        }

        long below(int minute) {
            long sum = 0;
            for (int i = 0; i < size && i < MOST; i++) {
                if (minutes[i] < minute) sum += weights[i] * (minute - minutes[i]);
            }
            return sum;
        }
    }

    /** All set out for one meeting, each by what the others do, till nobody changes. */
    private static final class Rest {
        private final People people;
        private final Ways ways;
        private final int[] aheads = new int[PEOPLE];
        private final long[] costs = new long[REST_CHOICES];
        // When the others are all there, and when each of them is there (not ahead of the meeting).
        private Tally lasts = new Tally();
        private Tally spare = new Tally();
        private final Tally each = new Tally();

        Rest(People people, Ways ways) {
            this.people = people;
            this.ways = ways;
        }

        int aheadOf(int p) {
            return p >= 0 && p < aheads.length ? aheads[p] : NONE;
        }

        /** The last turn counts, too: it alone shows that nobody changes. */
        int comeToRest(Meeting meeting, int price) {
            Arrays.fill(aheads, 0);
            for (int turn = 1; turn <= REST_TURNS; turn++) {
                boolean changed = false;
                for (int p = 0; p < aheads.length; p++) {
                    if (!meeting.includes(p)) continue;
                    int best = cheapest(meeting, p, price);
                    if (best != aheads[p]) changed = true;
                    aheads[p] = best;
                }
                if (!changed) return turn;
            }
            return NOT_SO;
        }

        private int cheapest(Meeting meeting, int p, int price) {
            Arrays.fill(costs, 0);
            for (int state = 0; state < STATES; state++) {
                int weight = ways.bridgeWeight(state);
                if (weight <= 0) continue;
                gatherOthers(meeting, p, state);
                for (int i = 0; i < costs.length; i++) {
                    costs[i] += weight * costOf(meeting, p, meeting.minute - i * REST_STEP, state, price);
                }
            }
            int best = 0;
            for (int i = 1; i < costs.length; i++) {
                if (costs[i] < costs[best]) best = i;
            }
            return best * REST_STEP;
        }

        private void gatherOthers(Meeting meeting, int p, int state) {
            lasts.empty();
            lasts.add(meeting.minute, 1);
            each.empty();
            for (int y = 0; y < aheads.length; y++) {
                if (y == p || !meeting.includes(y)) continue;
                long weights = weightsWithout(meeting, p, y);
                spare.empty();
                for (int end = 0; end < ways.endsOf(y); end++) {
                    int there = Math.max(meeting.minute, meeting.minute - aheads[y] + ways.takes(y, end, state));
                    each.add(there, weights * ways.weightOf(y, end));
                    spreadLasts(there, ways.weightOf(y, end));
                }
                Tally before = lasts;
                lasts = spare;
                spare = before;
            }
        }

        private void spreadLasts(int there, int weight) {
            for (int i = 0; i < lasts.length(); i++) {
                spare.add(Math.max(there, lasts.minuteAt(i)), weight * lasts.weightAt(i));
            }
        }

        private long weightsWithout(Meeting meeting, int p, int y) {
            long product = 1;
            for (int z = 0; z < PEOPLE; z++) {
                if (z != p && z != y && meeting.includes(z)) product *= ways.weightsOf(z);
            }
            return product;
        }

        private long costOf(Meeting meeting, int p, int start, int state, int price) {
            int worth = people.worthAt(p, meeting.hour());
            long sum = 0;
            for (int end = 0; end < ways.endsOf(p); end++) {
                int coming = start + ways.takes(p, end, state);
                sum += ways.weightOf(p, end) * (worth * lasts.above(coming) + price * each.below(coming));
            }
            return sum;
        }
    }
}
