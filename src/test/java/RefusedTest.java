/** A call that is refused, and one that only asks, changes nothing but the tape, where the document tells it. */
public final class RefusedTest extends Asked {
    public static void main(String[] args) {
        probesSeeChanges();
        ofNew();
        ofBusy();
        ofLater();
        ofTaken();
        ofFull();
        faultsEmptyTheTape();
        checksEmptyTheTape();
        sixtyNotes();
        moreThanSixtyAtOnce();
        askingChangesNothing();
        objectsAreApart();
        sum();
    }

    private static void same(Town.Build build, String call, Twins.Call asked, Twins.Call instead) {
        String differs = Twins.differ(build, asked, instead);
        due(call + ", then " + differs, differs == null ? 0 : 1, 0);
    }

    private static void refused(Town.Build build, String call, Twins.Call asked, long want) {
        due(call, asked.on(build.make()), want);
        same(build, call, asked, x -> 0);
    }

    private static void refused(Town.Build build, String call, Twins.Call asked) {
        refused(build, call, asked, -1);
    }

    private static long bit(boolean answer) {
        return answer ? 1 : 0;
    }

    private static void seen(String call, Twins.Call asked) {
        due(call + " is seen", Twins.differ(Town::busy, asked, x -> 0) == null ? 0 : 1, 1);
    }

    /** Without this the tests below could pass by asking too little. */
    private static void probesSeeChanges() {
        promise = "what is changed is seen";
        seen("now", x -> bit(x.now(3)));
        seen("worth", x -> bit(x.worth(1, 12, 3)));
        seen("worth of 2", x -> bit(x.worth(2, 13, 3)));
        seen("meeting", x -> x.meeting(0, 0, 3));
        seen("came", x -> bit(x.came(3, 1, 0)));
        seen("came anew", x -> bit(x.came(2, 3, 679)));
        seen("feed", x -> x.feed(1, 2, 3, 4, 5));
        seen("law", x -> x.law(15));
        seen("a fault", x -> x.law(14));
        seen("settle", x -> x.settle(2));
        seen("hand", x -> bit(x.hand(0, 3)));
        seen("cut", x -> x.cut(0, 1));
        seen("take", x -> x.take(0, 1, 8));
        seen("end", x -> x.end(3, 0, 2));
        seen("bridge", x -> bit(x.bridge(1, 4, 31)));
        seen("crosses", x -> bit(x.crosses(4, true)));
        seen("seed", x -> bit(x.seed(778)));
        seen("draw", x -> x.draw(5, 0));
        seen("check", x -> x.check(0));
    }

    private static void ofNew() {
        promise = "refused by a new object";
        Town.Build b = LateMinutes::new;
        refused(b, "came", x -> bit(x.came(0, 0, 0)), 0);
        refused(b, "law", x -> x.law(1));
        refused(b, "begins", x -> x.begins(0));
        refused(b, "keeps", x -> x.keeps(0, 0, 1));
        refused(b, "kept", x -> x.kept(0, 0, 0));
        refused(b, "owes", x -> x.owes(0, 0, 1, 0));
        refused(b, "chain", x -> x.chain(0, 0, 1, 0));
        refused(b, "settle", x -> x.settle(0));
        refused(b, "noteIs", x -> x.noteIs(0, 0), -1000);
        refused(b, "hand", x -> bit(x.hand(0, 1)), 0);
        refused(b, "cut", x -> x.cut(0, 1));
        refused(b, "take", x -> x.take(0, 1, 0));
        refused(b, "crosses", x -> bit(x.crosses(0, false)), 0);
        refused(b, "cost", x -> x.cost(0, 0, 0, 0));
        refused(b, "out", x -> x.out(0, 0, 0));
        refused(b, "two", x -> x.two(0, 1, 0, 0, 0, 0));
        refused(b, "outTwo", x -> x.outTwo(0, 1, 0, 0, 0));
        refused(b, "rest", x -> x.rest(0, 0, -1), -3);
        refused(b, "draw", x -> x.draw(0, 0));
        refused(b, "check", x -> x.check(1), -2);
        refused(b, "count", x -> x.count(20));
        refused(b, "meeting", x -> x.meeting(0, 0, 1));
        refused(b, "now", x -> bit(x.now(100)), 0);
    }

    private static void ofBusy() {
        promise = "refused by a busy one";
        Town.Build b = Town::busy;
        refused(b, "it is past", x -> bit(x.now(1)), 0);
        refused(b, "came, settled", x -> bit(x.came(0, 0, 540)), 0);
        refused(b, "came, not of it", x -> bit(x.came(3, 2, 540)), 0);
        refused(b, "settled", x -> x.settle(1));
        refused(b, "not all came", x -> x.settle(3));
        refused(b, "nobody came", x -> x.settle(5));
        refused(b, "its day is ahead", x -> x.settle(4));
        refused(b, "draw, settled", x -> x.draw(1, 0));
        refused(b, "he has it", x -> bit(x.hand(0, 4)), 0);
        refused(b, "nothing left to hand", x -> bit(x.hand(2, 1)), 0);
        refused(b, "handed to who owes, on", x -> bit(x.hand(3, 1)), 0);
        refused(b, "nothing left to cut", x -> x.cut(2, 1));
        refused(b, "cut all", x -> x.cut(1, 5));
        refused(b, "cut more", x -> x.cut(1, 6));
        refused(b, "nothing left to take", x -> x.take(2, 1, 9));
        refused(b, "take more", x -> x.take(1, 6, 9));
        refused(b, "a sixth end", x -> x.end(1, 0, 1));
        refused(b, "more shut than all", x -> bit(x.bridge(5, 4, 30)), 0);
        refused(b, "it crosses", x -> bit(x.crosses(0, true)), 0);
        refused(b, "it does not cross", x -> bit(x.crosses(1, false)), 0);
        refused(b, "the tape is too short for a law", x -> x.law(41));
        refused(b, "no law of 0", x -> x.law(0));
        refused(b, "the tape is too short to check", x -> x.check(3), -2);
    }

    private static void ofLater() {
        promise = "refused when lapsed";
        Town.Build b = Town::later;
        for (int i = 4; i < 6; i++) {
            int note = i;
            due("was live", Town.busy().noteIs(note, 5), 1);
            due("is not live", b.make().noteIs(note, 5), 0);
            refused(b, "hand", x -> bit(x.hand(note, 1)), 0);
            refused(b, "cut", x -> x.cut(note, 1));
            refused(b, "take", x -> x.take(note, 1, 9));
        }
    }

    /** 0 to 1, 0 to 2, 1 to 0, 1 to 2, 2 to 0 and 2 to 1: 100 each, of which some is cut and taken. */
    private static void ofTaken() {
        promise = "refused by a full hour";
        Town.Build b = Town::taken;
        int[][] want = {{0, 1, 40}, {0, 2, 41}, {1, 0, 100}, {1, 2, 100}, {2, 0, 100}, {2, 1, 41}, {0, 1, 0}, {2, 1, 0}};
        for (int i = 0; i < 8; i++) for (int what = 0; what < 3; what++) due("note", b.make().noteIs(i, what), want[i][what]);
        refused(b, "0 gave 60 at 5", x -> x.take(1, 1, 5));
        refused(b, "1 took 60 at 5", x -> x.take(5, 1, 5));
        refused(b, "0 gave 59 at 6", x -> x.take(1, 2, 6));
        refused(b, "1 took 59 at 6", x -> x.take(5, 2, 6));
        due("0 gives 60 at 6", b.make().take(1, 1, 6), 40);
        due("1 takes 60 at 6", b.make().take(5, 1, 6), 40);
        due("0 takes at 5, though he gave", b.make().take(2, 60, 5), 40);
        due("1 gives at 5, though he took", b.make().take(3, 60, 5), 40);
        refused(b, "61 of 100", x -> x.take(2, 61, 9));
        due("60 of 100", b.make().take(2, 60, 9), 40);
    }

    private static void ofFull() {
        promise = "refused by a full one";
        Town.Build b = Town::full;
        due("meetings", b.make().count(1), 24);
        due("notes", b.make().count(2), 60);
        due("clauses", b.make().count(3), 14);
        due("bytes", b.make().count(4), 400);
        due("settled", b.make().count(6), 3);
        for (int p = 0; p < 8; p++) due("ends", b.make().count(10 + p), 5);
        refused(b, "a 25th meeting", x -> x.meeting(99, 0, 3));
        refused(b, "a 61st note", x -> x.cut(0, 1));
        refused(b, "a meeting's 61st note", x -> x.settle(3), -2);
        refused(b, "many more notes", x -> x.settle(4), -2);
        refused(b, "a 401st byte", x -> x.feed(0, 0, 0, 0, 0));
        refused(b, "a law of 201", x -> x.law(201));
        refused(b, "26 fours", x -> x.check(26), -2);
        for (int i = 0; i < 8; i++) {
            int p = i;
            refused(b, "a sixth end", x -> x.end(p, 0, 1));
        }
        refused(b, "day 100", x -> bit(x.now(100)), 0);
        refused(b, "day 98", x -> bit(x.now(98)), 0);
    }

    private static void fault(String text, int want) {
        Town.Build b = () -> {
            LateMinutes x = Town.busy();
            x.check(0);
            feed(x, text);
            return x;
        };
        due(text, b.make().law(text.length()), want);
        same(b, text, x -> x.law(text.length()), x -> x.check(0));
    }

    private static void faultsEmptyTheTape() {
        promise = "a fault";
        fault("p9(1=1);o1(1=1", -1014);
        fault("p9(1=1);o1(1=123456)", -2018);
        fault("p9(1=1);o1((((((1=[1]))))))", -5018);
        StringBuilder many = new StringBuilder("p9(1=1)");
        for (int i = 0; i < 14; i++) many.append(";o9(1=1)");
        fault(many.toString(), -4112);
    }

    /** Whatever it answers, the tape is empty then and nothing else is changed. */
    private static void checksEmptyTheTape() {
        promise = "check";
        for (int i = 0; i < 3; i++) {
            int n = i;
            due("check " + n, Town.busy().check(n), 0);
            same(Town::busy, "check " + n, x -> x.check(n), x -> x.law(1));
        }
        due("check 25", Town.full().check(25), 0);
        same(Town::full, "check 25", x -> x.check(25), x -> x.law(1));
    }

    /** Of a settling that has no room for its last note, none is made. */
    private static void sixtyNotes() {
        promise = "60 notes";
        Town.Build b = () -> {
            LateMinutes x = new LateMinutes();
            law(x, "o1(x=0);p30(1=1)");
            met(x, 0, 600, 3, 600, 600);
            met(x, 0, 700, 255, 700, 700, 700, 700, 700, 700, 700, 700);
            x.settle(0);
            law(x, "o70(1=1)");
            met(x, 0, 800, 3, 800, 800);
            x.settle(2);
            for (int i = 0; i < 50; i++) x.cut(1, 1);
            law(x, "o1(x=0)");
            return x;
        };
        due("notes", b.make().count(2), 53);
        LateMinutes x = b.make();
        due("just 60", x.settle(1), 7);
        due("60", x.count(2), 60);
        Town.Build more = () -> {
            LateMinutes y = b.make();
            y.cut(2, 1);
            return y;
        };
        due("notes", more.make().count(2), 54);
        refused(more, "a 61st", y -> y.settle(1), -2);
    }

    /** Eight who owe each other, each of whom passes on a part: more than 60 at once. */
    private static void moreThanSixtyAtOnce() {
        Town.Build b = () -> {
            LateMinutes x = new LateMinutes();
            law(x, "o10(1=1);p50(x>0)");
            met(x, 0, 500, 255, 550, 500, 500, 500, 500, 500, 500, 500);
            met(x, 0, 600, 255, 600, 601, 601, 601, 601, 601, 601, 601);
            return x;
        };
        due("no note", b.make().count(2), 0);
        due("two pay", b.make().chain(1, 1, 2, 0), 2);
        refused(b, "7 notes of 0 and 91 of the others", x -> x.settle(1), -2);
        LateMinutes x = b.make();
        due("98 are too many", x.settle(1), -2);
        due("still no note", x.count(2), 0);
        due("none", x.noteIs(0, 0), -1000);
        due("56 are not", x.settle(0), 56);
    }

    private static void asks(Town.Build b, String call, Twins.Call asked) {
        same(b, call, asked, x -> 0);
    }

    private static void askingChangesNothing() {
        promise = "only asked";
        Town.Build[] builds = {LateMinutes::new, Town::busy, Town::later, Town::taken, Town::full};
        for (Town.Build b : builds) {
            asks(b, "now", x -> bit(x.now(x.count(0))));
            asks(b, "begins", x -> x.begins(0));
            asks(b, "keeps", x -> x.keeps(1, 0, 3));
            asks(b, "kept", x -> x.kept(1, 0, 1));
            asks(b, "owes", x -> x.owes(1, 0, 3, 0));
            asks(b, "chain", x -> x.chain(1, 0, 3, 0));
            asks(b, "noteIs", x -> x.noteIs(0, 2));
            asks(b, "owed", x -> x.owed(2, -1));
            asks(b, "called", x -> x.called(4, 6));
            asks(b, "round", x -> x.round());
            asks(b, "takings", x -> x.takings());
            asks(b, "lateIf", x -> x.lateIf(0, 10, 1));
            asks(b, "hang", x -> x.hang(255, 10, 2));
            asks(b, "cost", x -> x.cost(0, 0, 10, 5));
            asks(b, "out", x -> x.out(0, 0, 5));
            asks(b, "two", x -> x.two(0, 1, 0, 30, 10, 5));
            asks(b, "outTwo", x -> x.outTwo(0, 1, 0, 30, 5));
            asks(b, "rest", x -> x.rest(1, 5, -1));
            asks(b, "lost", x -> x.lost());
            asks(b, "count", x -> x.count(5));
        }
    }

    /** "All memory is the town's own": what one object is told another one does not know. */
    private static void objectsAreApart() {
        promise = "two objects";
        same(LateMinutes::new, "one beside a full one", x -> Town.full().count(0), x -> 0);
        same(Town::busy, "one beside a full one", x -> Town.full().count(0), x -> 0);
    }
}
