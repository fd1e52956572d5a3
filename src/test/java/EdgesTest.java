import java.util.Random;

/** Where a sentence of the document has an edge: what answers just on this side of it, and just on the other. */
public final class EdgesTest extends Asked {
    public static void main(String[] args) {
        lateByAMinute();
        numbersWrap();
        divisionByZero();
        comparedAsTheyAre();
        amountsAreHeld();
        lettersAtTheirBounds();
        textsOfTheLaw();
        keptByAMinute();
        keptOfThatDay();
        chainRounds();
        ownPartOfTheChain();
        settledOnItsDay();
        lapsesOnItsDay();
        hoursOfADay();
        calledByHours();
        calledTillLapsed();
        roundByTheDearerWay();
        takingsOfEight();
        waysTake();
        hangingBits();
        costByTheHour();
        outJustSo();
        rowJustSo();
        restByThirtyTurns();
        restInTurn();
        restByWeights();
        restOfLikeOnes();
        waitedAtSettled();
        drawnByX();
        drawnWithinTheDay();
        checkedWhole();
        sum();
    }

    private static final String ALWAYS = "(1=1)";

    private static void lateByAMinute() {
        promise = "LATE, KEEPS, BEGINS";
        for (int coming = 599; coming <= 602; coming++) {
            LateMinutes x = new LateMinutes();
            law(x, "oa(1=1);pb(1=1);lw(1=1)");
            met(x, 0, 600, 3, coming, 600);
            int late = Math.max(0, coming - 600);
            due("a", x.owes(0, 0, 1, 0), late);
            due("b", x.owes(0, 1, 0, 1), late);
            due("w", x.owes(0, 0, 1, 2), late);
            due("keeps", x.keeps(0, 0, 1), late);
            due("begins", x.begins(0), 600 + late);
            due("kept for it", x.kept(0, 0, 0), -2);
        }
        LateMinutes x = new LateMinutes();
        met(x, 0, 0, 3, 0, 1439);
        due("the whole day", x.keeps(0, 1, 0), 1439);
        due("0 came in time", x.keeps(0, 0, 1), 0);
        met(x, 0, 600, 3, 610, 609);
        due("by a minute", x.keeps(1, 0, 1), 1);
        due("not below 0", x.keeps(1, 1, 0), 0);
        met(x, 0, 1439, 3, 1439, 0);
        due("the last minute", x.begins(2), 1439);
    }

    private static boolean holds(String c) {
        LateMinutes x = new LateMinutes();
        met(x, 0, 600, 3, 600, 600);
        due("law " + c, law(x, "o5(" + c + ");o7(1=1)"), 2);
        return x.owes(0, 0, 1, 0) == 5;
    }

    private static int reckoned(String e) {
        LateMinutes x = new LateMinutes();
        met(x, 0, 600, 3, 600, 600);
        due("law " + e, law(x, "o" + e + ALWAYS), 1);
        return x.owes(0, 0, 1, 0);
    }

    private static void numbersWrap() {
        promise = "32 bits";
        // 32767*65536+65535 is the highest number, 65536*32768 wraps to the lowest one.
        String most = "[32767*65536+65535]";
        String least = "[65536*32768]";
        yes("the highest", holds(most + ">" + most + "-1"));
        yes("the lowest", holds(least + "<0"));
        yes("plus 1", holds(most + "+1=" + least));
        yes("less 1", holds(least + "-1=" + most));
        yes("its other sign", holds("0-" + least + "=" + least));
        yes("twice", holds(least + "*2=0"));
        yes("by -1", holds(least + "*[0-1]=" + least));
        yes("divided by -1", holds(least + "/[0-1]=" + least));
        yes("the rest by -1", holds(least + "%[0-1]=0"));
        yes("the highest by -1", holds(most + "/[0-1]=" + least + "+1"));
        yes("99999 by 99999", holds("99999*99999=14098*10000*10+65409"));
        due("a product, wrapped", reckoned("65536*65537/65536"), 1);
        due("-7 divided by 2 is -3", reckoned("[0-7]/2+4"), 1);
        due("7 divided by -2 is -3", reckoned("7/[0-2]+4"), 1);
        due("-7 by 4 leaves -3", reckoned("[0-7]%4+4"), 1);
        due("7 by -4 leaves 3", reckoned("7%[0-4]"), 3);
        due("from the left on", reckoned("7/2*2"), 6);
        due("from the left on", reckoned("2*7/2"), 7);
        due("from the left on", reckoned("17%10*3"), 21);
        due("from the left on", reckoned("20-5-3"), 12);
        due("from the left on", reckoned("20-[5-3]"), 18);
    }

    private static void divisionByZero() {
        promise = "REFUSED";
        for (String zero : new String[] {"1/0", "1%0", "0/0", "0%0", "1/[1-1]", "65536*32768/0", "0*[1/0]", "5+1%0"}) {
            due("an E is 0: " + zero, reckoned(zero + "+9"), 0);
            for (String sign : new String[] {"<", "=", ">"}) {
                no("left " + zero + sign, holds(zero + sign + "1"));
                no("right " + zero + sign, holds("1" + sign + zero));
                no("through ! " + zero + sign, holds("!" + zero + sign + "1"));
                no("through !! " + zero + sign, holds("!!1" + sign + zero));
                no("through ( ) " + zero + sign, holds("(" + zero + sign + "1)"));
                no("through !( ) " + zero + sign, holds("!(" + zero + sign + "1)"));
                no("through | " + zero + sign, holds(zero + sign + "1|1=1"));
                no("behind & " + zero + sign, holds("1=1&" + zero + sign + "1|1=1"));
                no("behind | " + zero + sign, holds("1=2|" + zero + sign + "1|1=1"));
                yes("not asked behind & " + zero + sign, holds("1=2&" + zero + sign + "1|1=1"));
                yes("not asked behind | " + zero + sign, holds("1=1|" + zero + sign + "1"));
                yes("not asked in ( ) " + zero + sign, holds("(1=1|" + zero + sign + "1)&1=1"));
                yes("not asked in !( ) " + zero + sign, holds("!(1=2&" + zero + sign + "1)"));
                yes("not asked, several " + zero + sign, holds("1=2&1=1&" + zero + sign + "1|1=1&1=1"));
            }
        }
        yes("0 divided", holds("0/5=0"));
        LateMinutes x = new LateMinutes();
        met(x, 0, 600, 3, 600, 600);
        law(x, "o5(1/a=1);o1/a(1=1);o7(1=1);p5(!1/a=1);p6(1=1);l1/a(1=1);l7(1=1)");
        due("the clause whose C is refused does not hold, the E of the next one is 0", x.owes(0, 0, 1, 0), 0);
        due("the next clause counts", x.owes(0, 0, 1, 1), 6);
        due("an E is 0: never", x.owes(0, 0, 1, 2), 0);
    }

    private static void comparedAsTheyAre() {
        promise = "C";
        String most = "[32767*65536+65535]";
        yes("no difference that wraps", holds("0-2<" + most));
        no("no difference that wraps", holds("0-2>" + most));
        no("like ones", holds("3<3"));
        no("like ones", holds("3>3"));
        yes("like ones", holds("3=3"));
        yes("below 0", holds("0-1<0"));
        for (String sign : new String[] {"<", ">"}) {
            yes("not so, then |", holds("3" + sign + "3|1=1"));
            no("so, then &", holds("!3" + sign + "3&3" + sign + "3"));
            yes("not not so", holds("!3" + sign + "3"));
            no("not so twice", holds("3" + sign + "3|3" + sign + "3"));
        }
        yes("& binds ahead of |", holds("1=1|1=2&1=2"));
        no("& of a C behind it", holds("1=2&(1=2|1=1)"));
        yes("& of a C behind it", holds("1=1&(1=2|1=1)"));
        no("| within, & without", holds("(1=2|1=1)&(1=2|1=2|1=2)"));
        yes("the last of many", holds("1=2|1=2&1=1|2<1|3>4|!(1=1|1=2)|1=1"));
        no("( ) bind ahead", holds("(1=1|1=2)&1=2"));
        yes("! binds ahead of &", holds("!1=2&1=1"));
        no("! binds ahead of |", holds("!1=1|1=2"));
        yes("! of a PIECE alone", holds("!1=1|1=1"));
        no("! of a C", holds("!(1=1|1=1)"));
    }

    private static void amountsAreHeld() {
        promise = "beyond its bounds the bound";
        LateMinutes x = new LateMinutes();
        met(x, 0, 600, 3, 600, 600);
        int[] most = {1440, 100, 100};
        for (int what = 0; what < 3; what++) {
            String letter = String.valueOf("opl".charAt(what));
            for (int more = -1; more <= 1; more++) {
                law(x, letter + (most[what] + more) + ALWAYS);
                due(letter + (most[what] + more), x.owes(0, 0, 1, what), Math.min(most[what], most[what] + more));
                law(x, letter + "5-" + (5 - more) + ALWAYS);
                due(letter + "5-" + (5 - more), x.owes(0, 0, 1, what), Math.max(0, more));
            }
            law(x, letter + "32767*65536+65535" + ALWAYS);
            due(letter + ", the highest", x.owes(0, 0, 1, what), most[what]);
            law(x, letter + "65536*32768" + ALWAYS);
            due(letter + ", the lowest", x.owes(0, 0, 1, what), 0);
            law(x, letter + "99999" + ALWAYS);
            due(letter + "99999", x.owes(0, 0, 1, what), most[what]);
            law(x, letter + "9(1=2)");
            due("none holds", x.owes(0, 0, 1, what), 0);
            for (int other = 0; other < 3; other++) {
                law(x, letter + "9(1=1)");
                due("of " + letter + " alone", x.owes(0, 0, 1, other), other == what ? 9 : 0);
            }
        }
        law(x, "o1(1=2);o2(1=1);o3(1=1)");
        due("the first that holds", x.owes(0, 0, 1, 0), 2);
        LateMinutes none = new LateMinutes();
        met(none, 0, 600, 3, 610, 600);
        for (int what = 0; what < 3; what++) due("no law", none.owes(0, 0, 1, what), 0);
        due("who pays without one", none.chain(0, 0, 1, 0), 1);
        due("what is paid without one", none.chain(0, 0, 1, 20), 0);
    }

    private static int letter(int day, int minute, char letter) {
        LateMinutes x = new LateMinutes();
        for (int h = 0; h < 24; h++) x.worth(7, h, 50 + h);
        met(x, day, minute, 255, 0, 0, 0, 0, 0, 0, 0, 0);
        law(x, "o" + letter + ALWAYS);
        return x.owes(0, 6, 7, 0);
    }

    private static void lettersAtTheirBounds() {
        promise = "letters";
        int[][] hours = {{0, 0}, {59, 0}, {60, 1}, {119, 1}, {1379, 22}, {1380, 23}, {1439, 23}};
        for (int[] h : hours) {
            due("h of " + h[0], letter(0, h[0], 'h'), h[1]);
            due("v of " + h[0], letter(0, h[0], 'v'), 50 + h[1]);
        }
        due("d", letter(0, 0, 'd'), 0);
        due("d", letter(99, 0, 'd'), 99);
        due("n", letter(0, 0, 'n'), 8);
        due("x", letter(0, 0, 'x'), 6);
        due("y", letter(0, 0, 'y'), 7);
        due("g", letter(0, 0, 'g'), 0);
        LateMinutes x = new LateMinutes();
        met(x, 0, 600, 7, 605, 604, 605);
        met(x, 0, 700, 3, 690, 680);
        law(x, "or" + ALWAYS);
        due("r: one later, not as late", x.owes(0, 1, 0, 0), 2);
        due("r: as late is not later", x.owes(0, 0, 1, 0), 0);
        due("r: ahead of its minute, too", x.owes(1, 1, 0, 0), 1);
        law(x, "og*100+n" + ALWAYS);
        due("g and n", x.owes(0, 0, 1, 0), 503);
        due("g and n", x.owes(1, 0, 1, 0), 2);
    }

    private static void textsOfTheLaw() {
        promise = "THE LAW as a text";
        due("the shortest", law("o1(1=1)"), 1);
        due("one digit", law("o9(1=1)"), 1);
        due("five", law("o99999(1=1)"), 1);
        due("six", law("o100000(1=1)"), -2006);
        due("six, the end behind", law("o123456"), -2006);
        due("five, the end behind", law("o12345"), -1006);
        due("the first from the left", law("o1(1=1=123456)"), -1006);
        due("the first from the left", law("o123456(1=1=1)"), -2006);
        due("no letter of a clause", law("(1=1)"), -1000);
        due("a blank ahead", law(" o1(1=1)"), -1000);
        due("a blank behind", law("o1(1=1) "), -1007);
        due("a blank behind ;", law("o1(1=1); o1(1=1)"), -1008);
        due("a comma", law("o1(1=1),o1(1=1)"), -1007);
        due("a sign of 255", law("o\u00ff(1=1)"), -1001);
        due("a sign of 0", law("o\u0000(1=1)"), -1001);
        // 175 + 32 is 207: a byte taken with its sign or by 7 bits would be another letter.
        due("a w with its highest bit", law("o\u00f7(1=1)"), -1001);
        for (String sign : new String[] {"<", ">", "=", "|", "&", ")", "]", ";", "q", "o", "p", "l"}) {
            due("as a factor: " + sign, law("o" + sign + "(1=1)"), -1001);
        }
        for (String sign : new String[] {"+", "-", "*", "/", "%"}) {
            due("behind " + sign, law("o1" + sign + "(1=1)"), -1003);
            due("behind " + sign, law("o1" + sign + sign + "1(1=1)"), -1003);
        }
        for (char c = 0; c < 256; c++) {
            boolean isClause = "opl".indexOf(c) >= 0;
            due("letter " + (int) c, law(c + "1(1=1)"), isClause ? 1 : -1000);
            boolean isFact = "wabngkrhdxyv".indexOf(c) >= 0 || c >= '0' && c <= '9';
            int fault = c == '[' ? -1002 : -1001;
            due("factor " + (int) c, law("o" + c + "(1=1)"), isFact ? 1 : fault);
            boolean isSign = "<>=".indexOf(c) >= 0;
            boolean goesOn = "+-*/%".indexOf(c) >= 0 || c >= '0' && c <= '9';
            due("comparison " + (int) c, law("o1(1" + c + "1)"), isSign ? 1 : goesOn ? -1006 : -1004);
        }
        opened("[[[[[[", "]]]]]]", false, 1, -5007);
        opened("(((((", ")))))", true, 1, -5008);
        opened("!!!!!", "", true, 1, -5008);
        opened("!(!(!", "))", true, 1, -5008);
        due("[ in a !", law("o1(!!!![1]=1)"), 1);
        due("[ in a !, a seventh", law("o1(!!!!![1]=1)"), -5008);
        due("[ right of =, a seventh", law("o1(!!!!!1=[1])"), -5010);
        due("! is shut behind its PIECE", law("o1(!1=1&((((1=1)))))"), 1);
        due("! is shut by )", law("o1((!1=1)|!!!!!1=1)"), 1);
        due("a clause shuts all", law("o1((((((1=1))))));o1((((((1=1))))))"), 1 + 1);
        due("the E is ahead of the (", law("o[[[[[[1]]]]]]((((((1=1))))))"), 1);
    }

    /** Six of them with the ( of the clause are allowed; one more of any kind is the fault. */
    private static void opened(String open, String close, boolean isCondition, int whole, int fault) {
        String inner = isCondition ? "1=1" : "1";
        String head = isCondition ? "o1(" : "o";
        String tail = isCondition ? ")" : ALWAYS;
        due(open, law(head + open + inner + close + tail), whole);
        due(open + " and [", law(head + open + "[1]" + (isCondition ? "=1" : "") + close + tail), fault);
        if (!isCondition) return;
        due(open + " and (", law(head + open + "(1=1)" + close + tail), fault);
        due(open + " and !", law(head + open + "!1=1" + close + tail), fault);
    }

    private static void keptByAMinute() {
        promise = "KEPT, by a minute";
        LateMinutes x = new LateMinutes();
        int first = met(x, 0, 599, 3, 599, 600);
        int asked = met(x, 0, 600, 5, 601, 600);
        due("g is 1, late by 1", x.kept(asked, 0, 0), first);
        due("its keeper", x.kept(asked, 0, 1), 1);
        x.came(asked, 0, 602);
        due("late by 2", x.kept(asked, 0, 0), -2);
        x.came(asked, 0, 600);
        due("not late", x.kept(asked, 0, 0), -2);
        x.came(asked, 0, 601);
        x.came(first, 1, 599);
        due("g is 0", x.kept(asked, 0, 0), -2);
        x.came(first, 1, 1439);
        due("g is 840", x.kept(asked, 0, 0), first);
        x.came(asked, 0, 1439);
        due("late by 839", x.kept(asked, 0, 0), first);
        x.came(first, 0, 1439);
        due("he is the lower one of two keepers", x.kept(asked, 0, 0), -2);
        x.came(first, 0, 1438);
        due("he was there a minute ahead", x.kept(asked, 0, 0), first);
        int end = met(x, 0, 1438, 3, 1439, 1439);
        due("late by 1 for the end", x.kept(end, 0, 0), first);
        due("1 is the keeper himself", x.kept(end, 1, 0), -2);
    }

    private static void keptOfThatDay() {
        promise = "KEPT, of that day";
        for (int day = 4; day <= 6; day++) {
            for (int minute = 599; minute <= 601; minute++) {
                LateMinutes x = new LateMinutes();
                int other = met(x, day, minute, 6, 700, 600);
                int asked = met(x, 5, 600, 12, 610, 600);
                due("day " + day + " minute " + minute, x.kept(asked, 2, 0), day == 5 && minute == 599 ? other : -2);
                due("not of its people", x.kept(asked, 1, 0), -1);
                due("3 was not there", x.kept(asked, 3, 0), -2);
                law(x, "ok*8+1" + ALWAYS);
                due("k", x.owes(asked, 2, 3, 0), day == 5 && minute == 599 ? 9 : 1);
            }
        }
        LateMinutes x = new LateMinutes();
        int low = met(x, 0, 500, 3, 500, 560);
        int high = met(x, 0, 500, 5, 500, -1, 560);
        due("told of two only", x.begins(high), -1);
        x.came(high, 2, 570);
        int asked = met(x, 0, 600, 9, 650, 600);
        due("of the same minute the higher number", x.kept(asked, 0, 0), high);
        int latest = met(x, 0, 501, 17, 500, 560);
        due("the latest minute", x.kept(asked, 0, 1), 4);
        x.came(latest, 4, 501);
        due("it began in time, so the next one", x.kept(asked, 0, 0), high);
        due("numbers", low * 100 + high * 10 + latest, 13);
        LateMinutes itself = new LateMinutes();
        int m = met(itself, 0, 600, 3, 610, 620);
        due("not by the meeting itself", itself.kept(m, 0, 0), -2);
    }

    /** 1 keeps 0 at the first one, 0 keeps 2 at the second one. */
    private static LateMinutes two(int minutes, int hundredths) {
        LateMinutes x = new LateMinutes();
        law(x, "o" + minutes + "(1=1);p" + hundredths + ALWAYS);
        met(x, 0, 500, 3, 500, 560);
        met(x, 0, 600, 5, 660, 600);
        return x;
    }

    private static void chainRounds() {
        promise = "THE CHAIN, rounded down";
        int[][] cases = {{1, 99, 0}, {1, 100, 1}, {100, 1, 1}, {99, 1, 0}, {101, 99, 99}, {1440, 100, 1440},
            {1440, 99, 1425}, {3, 33, 0}, {3, 34, 1}, {199, 1, 1}, {200, 1, 2}, {50, 0, 0}, {0, 100, 0}};
        for (int[] c : cases) {
            LateMinutes x = two(c[0], c[1]);
            String call = c[0] + " by " + c[1];
            due(call + ", who pay", x.chain(1, 0, 2, 0), c[2] > 0 ? 2 : 1);
            due(call + ", who", x.chain(1, 0, 2, 10), 0);
            due(call + ", his rest", x.chain(1, 0, 2, 20), c[0] - c[2]);
            due(call + ", the keeper", x.chain(1, 0, 2, 11), c[2] > 0 ? 1 : -1);
            due(call + ", his part", x.chain(1, 0, 2, 21), c[2] > 0 ? c[2] : -1);
            due(call + ", no more", x.chain(1, 0, 2, 22), -1);
            due(call + ", who was not kept", x.chain(1, 2, 0, 0), 1);
            due(call + ", all of it", x.chain(1, 2, 0, 20), c[0]);
        }
    }

    private static void ownPartOfTheChain() {
        promise = "THE CHAIN, what y would owe himself";
        LateMinutes x = new LateMinutes();
        law(x, "o10(x=0&y=1);p40(1=1)");
        met(x, 0, 500, 3, 500, 560);
        met(x, 0, 600, 3, 660, 600);
        due("two pay", x.chain(1, 0, 1, 0), 2);
        due("1 is one of them", x.chain(1, 0, 1, 11), 1);
        due("by 4", x.chain(1, 0, 1, 21), 4);
        due("one note", x.settle(1), 1);
        due("of the rest", x.noteIs(0, 2), 6);
        due("by 0", x.noteIs(0, 0), 0);
        LateMinutes all = new LateMinutes();
        law(all, "o10(x=0&y=1);p100(1=1)");
        met(all, 0, 500, 3, 500, 560);
        met(all, 0, 600, 3, 660, 600);
        due("a part of 0 and one of his own", all.settle(1), 0);
        due("settled all the same", all.count(6), 1);
        due("no note", all.count(2), 0);
    }

    private static void settledOnItsDay() {
        promise = "SETTLED, not ahead of its day";
        LateMinutes x = new LateMinutes();
        law(x, "o1(x<y)");
        for (int day = 0; day < 3; day++) met(x, day, 600, 3, 600, 600);
        x.now(1);
        due("its day is past", x.settle(0), 1);
        due("its day is NOW", x.settle(1), 1);
        due("its day is ahead", x.settle(2), -1);
        due("made NOW, not on its day", x.noteIs(0, 3), 1);
        x.now(2);
        due("its day has come", x.settle(2), 1);
        due("once", x.settle(2), -1);
        int last = met(x, 99, 1439, 3, 1439, 1439);
        x.now(98);
        due("the last day is ahead", x.settle(last), -1);
        x.now(99);
        due("on the last day", x.settle(last), 1);
        LateMinutes y = new LateMinutes();
        int open = y.meeting(0, 600, 7);
        y.came(open, 0, 600);
        y.came(open, 2, 600);
        due("one is awaited", y.settle(open), -1);
        y.came(open, 1, 600);
        due("all came", y.settle(open), 0);
    }

    private static LateMinutes lapsing(int days) {
        LateMinutes x = new LateMinutes();
        law(x, "o40(x<y);l" + days + ALWAYS);
        x.now(3);
        met(x, 0, 600, 3, 600, 600);
        due("settle", x.settle(0), 1);
        return x;
    }

    private static void lapsesOnItsDay() {
        promise = "LAPSED";
        for (int days : new int[] {1, 2, 50, 96}) {
            LateMinutes x = lapsing(days);
            due("from its day and l on", x.noteIs(0, 4), 3 + days);
            x.now(3 + days - 1);
            due("live on the day before", x.noteIs(0, 5), 1);
            due("owed", x.owed(0, 1), 40);
            due("round", x.round(), 40);
            due("takings", x.takings(), 1);
            due("called, on that day alone", x.called(1, 6), 40);
            due("cut with its lapse", x.cut(0, 1), 1);
            due("of it", x.noteIs(1, 4), 3 + days);
            due("with its day", x.noteIs(1, 3), 3);
            yes("handed", x.hand(1, 2));
            due("handed with its lapse", x.noteIs(1, 4), 3 + days);
            if (3 + days > 99) continue;
            x.now(3 + days);
            due("lapsed on its day", x.noteIs(0, 5), 0);
            due("the part, too", x.noteIs(1, 5), 0);
            due("its minutes stay", x.noteIs(0, 2), 39);
            due("owed", x.owed(-1, -1), 0);
            due("round", x.round(), 0);
            due("takings", x.takings(), 0);
            due("called", x.called(1, 6), 0);
            due("cut", x.cut(0, 1), -1);
            no("hand", x.hand(0, 2));
            due("take", x.take(0, 1, 0), -1);
            due("none is to be checked", x.check(0), -1);
        }
        LateMinutes never = lapsing(0);
        due("never", never.noteIs(0, 4), -1);
        never.now(99);
        due("live on the last day", never.noteIs(0, 5), 1);
        LateMinutes longest = lapsing(100);
        due("100 days", longest.noteIs(0, 4), 103);
        longest.now(99);
        due("live on the last day", longest.noteIs(0, 5), 1);
    }

    private static void hoursOfADay() {
        promise = "60 an HOUR";
        LateMinutes x = new LateMinutes();
        law(x, "o1440(x=0&y=1);o100(x=0&y=2);o100(x=2&y=1)");
        met(x, 0, 600, 7, 600, 600, 600);
        due("settle", x.settle(0), 3);
        int left = 1440;
        for (int hour = 0; hour < 24; hour++) {
            due("60 by one who owes, " + hour, x.take(0, 60, hour), left -= 60);
            due("no more by him", x.take(1, 1, hour), -1);
            due("no more to him", x.take(2, 1, hour), -1);
            if (hour < 23) due("none yet in the next hour", x.called(1, 0), 60 * (23 - hour));
        }
        due("all is taken", x.noteIs(0, 5), 0);
        due("the day is full", x.called(1, 0), 0);
        x.now(0);
        due("the same day", x.take(1, 1, 23), -1);
        x.now(1);
        due("60 by him anew", x.take(1, 60, 0), 40);
        due("60 to him anew", x.take(2, 60, 0), 40);
        due("full again", x.take(1, 1, 0), -1);
        due("full again", x.take(2, 1, 0), -1);
        due("one more than it has", x.take(1, 41, 23), -1);
        due("all that it has", x.take(1, 40, 23), 0);
        due("all that it has", x.take(2, 40, 23), 0);
        hoursOfTheFirst();
        hoursOfTheLast();
        hoursOfTheNextDay();
        LateMinutes y = new LateMinutes();
        law(y, "o100(x=0|y=3)");
        met(y, 0, 600, 15, 600, 600, 600, 600);
        due("0 to 1, 2, 3; 1 to 3; 2 to 3", y.settle(0), 5);
        due("60 of 0 by three: 20", y.take(0, 20, 7), 80);
        due("20", y.take(1, 20, 7), 80);
        due("21 is too much", y.take(2, 21, 7), -1);
        due("20", y.take(2, 20, 7), 80);
        due("3 takes 20 of 1", y.take(3, 20, 7), 80);
        due("21 of 2 is too much", y.take(4, 21, 7), -1);
        due("20 of 2", y.take(4, 20, 7), 80);
        due("3 is full", y.take(4, 1, 7), -1);
        due("cut and handed it is his who has it", y.cut(3, 60), 5);
        yes("to 1", y.hand(4, 1));
        due("of 2, to 1: 40", y.take(4, 40, 7), 40);
        due("1 is full by 20 and 40", y.take(4, 1, 7), -1);
    }

    /** 0 to 1, 0 to 7, 6 to 1, 6 to 7, 7 to 1: 100 each. */
    private static LateMinutes fiveNotes() {
        LateMinutes x = new LateMinutes();
        law(x, "o100(x=0&y=1|x=0&y=7|x=6&y=1|x=6&y=7|x=7&y=1)");
        met(x, 0, 600, 195, 600, 600, 600, 600);
        due("settle", x.settle(0), 5);
        return x;
    }

    private static void hoursOfTheLast() {
        for (int hour = 0; hour < 24; hour++) {
            LateMinutes x = fiveNotes();
            due("60 of 7", x.take(4, 60, hour), 40);
            due("7 takes, though he gave", x.take(1, 60, hour), 40);
            due("7 took 60", x.take(3, 1, hour), -1);
            due("1 took 60", x.take(2, 1, hour), -1);
            due("0 gave 60", x.take(0, 1, hour), -1);
            due("7 gave 60", x.take(4, 1, hour), -1);
            int other = (hour + 1) % 24;
            due("in another hour", x.take(2, 60, other), 40);
            due("6 gave 60 in it", x.take(3, 1, other), -1);
        }
    }

    private static void hoursOfTheFirst() {
        LateMinutes x = new LateMinutes();
        law(x, "o100(x>y)");
        met(x, 0, 600, 7, 600, 600, 600);
        due("1 to 0, 2 to 0, 2 to 1", x.settle(0), 3);
        due("0 takes 60 at 0", x.take(0, 60, 0), 40);
        due("0 takes no more", x.take(1, 1, 0), -1);
        due("called, 60 less", x.called(0, 0), 140);
        due("2 gives 1 59 at 0", x.take(2, 59, 0), 41);
        due("2 gives 1 60 at 0", x.take(2, 1, 0), 40);
        due("2 gives no more", x.take(2, 1, 0), -1);
        for (int h = 1; h < 24; h++) x.worth(0, h, 0);
        due("nothing left at 0", x.called(0, 0), 0);
        due("60 on the next day", x.called(0, 1), 60);
    }

    private static void hoursOfTheNextDay() {
        LateMinutes gives = fiveNotes();
        due("60 of 6", gives.take(2, 60, 9), 40);
        gives.now(1);
        due("59 of 6 on the next day", gives.take(3, 59, 9), 41);
        due("2 more are too many", gives.take(2, 2, 9), -1);
        due("1 more", gives.take(2, 1, 9), 39);
        due("60 of 6", gives.take(2, 1, 9), -1);
        LateMinutes takes = fiveNotes();
        due("60 by 1", takes.take(0, 60, 9), 40);
        takes.now(1);
        due("59 by 1 on the next day", takes.take(2, 59, 9), 41);
        due("2 more are too many", takes.take(4, 2, 9), -1);
        due("1 more", takes.take(4, 1, 9), 99);
        due("60 by 1", takes.take(4, 1, 9), -1);
    }

    private static LateMinutes worths(int... worths) {
        LateMinutes x = new LateMinutes();
        for (int h = 0; h < 24; h++) x.worth(1, h, h < worths.length ? worths[h] : 0);
        return x;
    }

    private static void calledByHours() {
        promise = "CALLED IN";
        LateMinutes x = worths(3, 99, 0, 1);
        note(x, 0, 1, 59);
        due("the dearest hour", x.called(1, 0), 59 * 99);
        note(x, 2, 1, 1);
        due("60 in it", x.called(1, 0), 60 * 99);
        note(x, 3, 1, 1);
        due("one more in the next one", x.called(1, 0), 60 * 99 + 3);
        due("all on two days", x.called(1, 1), 61 * 99);
        note(x, 3, 1, 300);
        due("hours of 0 are worth nothing", x.called(1, 0), 60 * (99 + 3 + 1));
        due("seven days", x.called(1, 6), 361 * 99);
        note(x, 3, 1, 200);
        due("seven days, two hours", x.called(1, 6), 420 * 99 + 141 * 3);
        due("taken NOW", x.take(3, 60, 1), 240);
        due("the hour is full today", x.called(1, 0), 60 * (3 + 1));
        due("the other days are not", x.called(1, 6), 360 * 99 + 141 * 3);
        x.worth(1, 5, 99);
        due("two hours alike", x.called(1, 0), 60 * 99 + 60 * 3 + 60);
        due("what it is asked changes nothing", x.called(1, 0), 60 * 99 + 60 * 3 + 60);
        LateMinutes y = new LateMinutes();
        law(y, "o1440(x>1&y=1)");
        met(y, 0, 600, 31, 600, 600, 600, 600, 600);
        due("three of 1440", y.settle(0), 3);
        for (int days = 0; days < 7; days++) due("1440 a day", y.called(1, days), Math.min(3, days + 1) * 1440);
        y.hand(0, 0);
        for (int days = 0; days < 7; days++) due("another one's", y.called(0, days), 1440);
        LateMinutes z = worths(5);
        note(z, 1, 0, 40);
        note(z, 0, 1, 30);
        z.worth(0, 0, 2);
        due("1 gave 40", z.take(0, 40, 0), 0);
        due("what he gave does not count", z.called(1, 0), 150);
        due("0 took 40, not counted for 1", z.called(0, 0), 0);
    }

    private static void calledTillLapsed() {
        promise = "CALLED IN, not when LAPSED";
        LateMinutes x = worths(10);
        law(x, "o100(x=0&y=1);o100(x=2&y=1);l2(x=0)");
        met(x, 0, 600, 7, 600, 600, 600);
        due("settle", x.settle(0), 2);
        due("one day", x.called(1, 0), 600);
        due("two days", x.called(1, 1), 1200);
        due("three days: 100 of the one that lapses, the last 60 of the other one", x.called(1, 2), 1800);
        due("four days: 60 on each of the last two, 80 of them", x.called(1, 3), 2000);
        LateMinutes seven = worths(10);
        law(seven, "o420(x=0&y=1);l7(1=1)");
        met(seven, 0, 600, 3, 600, 600);
        seven.settle(0);
        due("it lapses behind the seventh day", seven.called(1, 6), 4200);
        LateMinutes six = worths(10);
        law(six, "o420(x=0&y=1);l6(1=1)");
        met(six, 0, 600, 3, 600, 600);
        six.settle(0);
        due("it lapses on the seventh day", six.called(1, 6), 3600);
        due("six days", six.called(1, 5), 3600);
        due("five days", six.called(1, 4), 3000);
        LateMinutes mixed = worths(10, 4);
        law(mixed, "o90(x=0&y=1);o200(x=2&y=1);l1(x=0)");
        met(mixed, 0, 600, 7, 600, 600, 600);
        mixed.settle(0);
        due("today both hours, tomorrow the other note", mixed.called(1, 1), 60 * 10 + 60 * 4 + 60 * 10 + 60 * 4);
        due("three days", mixed.called(1, 2), 180 * 10 + 110 * 4);
        LateMinutes lapsed = worths(10);
        law(lapsed, "o90(x=0&y=1);l1(1=1)");
        met(lapsed, 0, 600, 3, 600, 600);
        lapsed.settle(0);
        lapsed.now(1);
        due("lapsed NOW", lapsed.called(1, 6), 0);
    }

    private static void owe(LateMinutes x, int[][] debts) {
        for (int[] d : debts) note(x, d[0], d[1], d[2]);
    }

    private static int rounded(int[]... debts) {
        LateMinutes x = new LateMinutes();
        owe(x, debts);
        return x.round();
    }

    private static int[] debt(int x, int y, int minutes) {
        return new int[] {x, y, minutes};
    }

    private static void roundByTheDearerWay() {
        promise = "STRUCK ROUND";
        due("one", rounded(debt(0, 1, 1)), 1);
        due("of two against one another the rest", rounded(debt(0, 1, 9), debt(1, 0, 4)), 5);
        due("of two alike nothing", rounded(debt(0, 1, 9), debt(1, 0, 9)), 0);
        due("notes of two count together", rounded(debt(0, 1, 5), debt(0, 1, 4), debt(1, 0, 9)), 0);
        due("a round of three", rounded(debt(0, 1, 9), debt(1, 2, 8), debt(2, 0, 7)), 2 + 1);
        due("nobody pays whom he does not owe", rounded(debt(0, 1, 9), debt(1, 2, 9)), 18);
        due("a round of eight", rounded(debt(0, 1, 3), debt(1, 2, 3), debt(2, 3, 3), debt(3, 4, 3), debt(4, 5, 3),
            debt(5, 6, 3), debt(6, 7, 3), debt(7, 0, 2)), 7);
        // 0 to 1 is in both rounds; the longer one takes it.
        due("the longer of two rounds", rounded(debt(0, 1, 3), debt(1, 0, 3), debt(1, 2, 3), debt(2, 0, 3)), 3);
        // By the rounds 0 1 2 and 0 3 1 2: what 0 owes 1 may take over what would go through 3.
        due("a direct debt instead of a longer way",
            rounded(debt(0, 1, 10), debt(1, 0, 4), debt(0, 2, 4), debt(2, 1, 4)), 10);
        due("two ways of unlike length", rounded(debt(0, 1, 2), debt(1, 2, 2), debt(2, 3, 2), debt(0, 3, 5),
            debt(3, 0, 4)), 3);
        // First 0 would pay 2 by 1, then it pays 3 by 1 and 4 pays 2: what was left is taken back.
        due("taken back", rounded(debt(0, 1, 1), debt(1, 2, 1), debt(1, 3, 1), debt(4, 1, 1), debt(2, 4, 1),
            debt(3, 0, 1)), 0);
        // 0 and 4 are owed of by 1 and 3 once too often. First 0 would clear 1, so that 4 went by 5 and 6 to 3: 4; but
        // if 4 clears 1, 0 goes by 2 to 3: 3.
        for (int many : new int[] {1, 7, 40}) {
            due("another one clears him", rounded(debt(0, 1, many), debt(0, 2, many), debt(2, 3, many), debt(4, 1, many),
                debt(4, 5, many), debt(5, 6, many), debt(6, 3, many), debt(1, 0, many), debt(3, 4, many)), 3 * many);
        }
        roundOfAll();
        LateMinutes x = new LateMinutes();
        owe(x, new int[][] {{0, 1, 9}, {1, 2, 8}, {2, 0, 7}});
        due("takes nothing away", x.round() + x.round() + x.owed(-1, -1), 3 + 3 + 24);
        x.hand(0, 2);
        due("0 to 2, 1 to 2, 2 to 0", x.round(), 2 + 8);
    }

    /** Drawn debts of up to 3 among five: each of all the parts that could be left is tried. */
    private static void roundOfAll() {
        Random random = new Random(9);
        for (int run = 0; run < 60; run++) {
            int[][] debts = new int[8][];
            for (int i = 0; i < 8; i++) {
                int from = random.nextInt(5);
                debts[i] = debt(from, (from + 1 + random.nextInt(4)) % 5, 1 + random.nextInt(3));
            }
            int[] balance = new int[5];
            for (int[] d : debts) {
                balance[d[0]] += d[2];
                balance[d[1]] -= d[2];
            }
            due("of run " + run, rounded(debts), leastLeft(debts, 0, balance));
        }
        for (int run = 0; run < 200; run++) roundOfEight(random);
    }

    private static void roundOfEight(Random random) {
        LateMinutes x = new LateMinutes();
        Plain plain = new Plain();
        for (int i = 0; i < 22; i++) {
            int from = random.nextInt(8);
            int to = (from + 1 + random.nextInt(7)) % 8;
            int minutes = 1 + random.nextInt(30);
            note(x, from, to, minutes);
            plain.notes.add(new Plain.Note(from, to, minutes, 0, -1));
        }
        due("of eight", x.round(), plain.round());
        due("takings of eight", x.takings(), plain.takings());
    }

    private static int leastLeft(int[][] debts, int at, int[] balance) {
        if (at == debts.length) {
            for (int b : balance) if (b != 0) return 1000;
            return 0;
        }
        int least = 1000;
        for (int left = 0; left <= debts[at][2]; left++) {
            balance[debts[at][0]] -= left;
            balance[debts[at][1]] += left;
            least = Math.min(least, left + leastLeft(debts, at + 1, balance));
            balance[debts[at][0]] += left;
            balance[debts[at][1]] -= left;
        }
        return least;
    }

    private static void takingsOfEight() {
        promise = "TAKINGS";
        LateMinutes pairs = new LateMinutes();
        owe(pairs, new int[][] {{0, 1, 1}, {2, 3, 2}, {4, 5, 4}, {6, 7, 8}});
        due("four pairs", pairs.takings(), 4);
        LateMinutes apart = new LateMinutes();
        owe(apart, new int[][] {{0, 7, 1}, {1, 7, 2}, {2, 7, 4}, {3, 7, 8}, {4, 7, 16}, {5, 7, 32}, {6, 7, 64}});
        due("seven to one", apart.takings(), 7);
        LateMinutes threes = new LateMinutes();
        // Balances: 0 owes 3, 1 owes 5, 2 gets 8; 3 owes 7, 4 owes 4, 5 gets 11.
        owe(threes, new int[][] {{0, 5, 3}, {1, 2, 5}, {3, 2, 3}, {3, 5, 4}, {4, 5, 4}});
        due("two groups of three", threes.takings(), 4);
        LateMinutes fours = new LateMinutes();
        // 0 owes 5, 1 owes 6; 2 gets 4, 3 gets 7: no two and no three are clear.
        owe(fours, new int[][] {{0, 2, 4}, {0, 3, 1}, {1, 3, 6}});
        due("one group of four", fours.takings(), 3);
        LateMinutes through = new LateMinutes();
        owe(through, new int[][] {{0, 1, 5}, {1, 2, 5}, {2, 3, 5}, {3, 4, 5}});
        due("through all", through.takings(), 1);
        LateMinutes both = new LateMinutes();
        owe(both, new int[][] {{0, 1, 5}, {1, 0, 5}});
        due("nobody", both.takings(), 0);
    }

    private static void waysTake() {
        promise = "LATE IF";
        LateMinutes x = new LateMinutes();
        due("no end told: 0 minutes, in time", x.lateIf(4, 0, 0), 0);
        due("of 1", x.lateIf(4, 0, 1), 1);
        x.end(0, 300, 7);
        x.end(0, 0, 20);
        for (int ahead = 298; ahead <= 301; ahead++) {
            due("300 and " + ahead, x.lateIf(0, ahead, 0), ahead < 300 ? 7 : 0);
            due("below, " + ahead, x.lateIf(0, ahead, 1), ahead < 300 ? 27 : 1);
        }
        x.crosses(0, true);
        x.bridge(99, 100, 300);
        due("600 and 599: 693 through 9", x.lateIf(0, 599, 0), 77);
        due("2700 through 9", x.lateIf(0, 599, 1), 300);
        due("600 and 600", x.lateIf(0, 600, 0), 0);
        x.bridge(1, 1, 301);
        due("601 and 600", x.lateIf(0, 600, 0), 7);
        due("the other one: 301", x.lateIf(0, 300, 0), 1);
        due("the other one: 301", x.lateIf(0, 301, 1), 27);
        x.bridge(0, 100, 600);
        due("never shut", x.lateIf(0, 300, 0), 0);
        x.bridge(100, 100, 600);
        due("always shut", x.lateIf(0, 300, 1), 1);
        x.crosses(0, false);
        due("he does not cross", x.lateIf(0, 300, 0), 0);
        LateMinutes y = new LateMinutes();
        for (int i = 0; i < 5; i++) y.end(3, 100 * (i % 3), 20);
        due("the same minutes twice", y.lateIf(3, 99, 0), 3);
        due("of five", y.lateIf(3, 99, 1), 5);
        due("one of five", y.lateIf(3, 199, 0), 1);
        due("of five", y.lateIf(3, 199, 1), 5);
        y.crosses(6, true);
        y.bridge(3, 9, 600);
        due("no end told, over the bridge", y.lateIf(6, 599, 0), 1);
        due("of 3", y.lateIf(6, 599, 1), 3);
        due("600 are not more than 600", y.lateIf(6, 600, 0), 0);
    }

    private static void hangingBits() {
        promise = "HANG";
        LateMinutes x = new LateMinutes();
        for (int p = 0; p < 8; p++) {
            x.end(p, 50, 1 + p);
            x.end(p, 10, 2);
        }
        for (int p = 0; p < 8; p++) {
            due("only " + p + ", late", x.hang(1 << p, 10, 1), 1 + p);
            due("only " + p + ", in time", x.hang(1 << p, 10, 0), 2);
            due("only " + p + ", 9 ahead", x.hang(1 << p, 9, 1), 3 + p);
            due("only " + p + ", 50 ahead", x.hang(1 << p, 50, 1), 0);
        }
        due("none of 0 and 7", x.hang(129, 10, 0), 4);
        due("one of 0 and 7", x.hang(129, 10, 1), 1 * 2 + 2 * 8);
        due("0 and 7", x.hang(129, 10, 2), 8);
        due("all", x.hang(255, 10, 8), 40320);
        due("none of all", x.hang(255, 10, 0), 256);
        long sum = 0;
        for (int k = 0; k <= 8; k++) sum += x.hang(255, 10, k);
        due("through all", sum, 3L * 4 * 5 * 6 * 7 * 8 * 9 * 10);
        x.crosses(0, true);
        x.crosses(1, true);
        x.bridge(3, 10, 5);
        // Open (7): 0 late by 1 of 3, 1 by 2 of 4. Shut (3): both late.
        due("together by the bridge", x.hang(3, 14, 2), 7 * 1 * 2 + 3 * 3 * 4);
        due("one of both", x.hang(3, 14, 1), 7 * (1 * 2 + 2 * 2));
        due("none of both", x.hang(3, 14, 0), 7 * 2 * 2);
        x.bridge(0, 10, 5);
        due("never shut", x.hang(3, 14, 2), 10 * 2);
        x.bridge(10, 10, 5);
        due("always shut", x.hang(3, 14, 2), 10 * 12);
        due("always shut, none", x.hang(3, 14, 0), 0);
        LateMinutes most = new LateMinutes();
        for (int p = 0; p < 8; p++) for (int i = 0; i < 5; i++) most.end(p, 1, 20);
        most.bridge(50, 100, 600);
        due("the largest", most.hang(255, 0, 8), 1000000000000000000L);
        due("none", most.hang(255, 1, 0), 1000000000000000000L);
    }

    private static void costByTheHour() {
        promise = "COST";
        LateMinutes x = new LateMinutes();
        for (int h = 0; h < 24; h++) x.worth(0, h, 3 * h + 1);
        x.meeting(0, 120, 3);
        x.meeting(0, 1439, 3);
        x.meeting(0, 0, 7);
        due("at its minute", x.cost(0, 0, 0, 99), 0);
        due("a minute ahead: hour 1", x.cost(0, 0, 1, 99), 4);
        due("at 60: hour 1", x.cost(0, 0, 60, 99), 60 * 4);
        due("at 59: hour 0", x.cost(0, 0, 61, 99), 61);
        due("at 0: hour 0", x.cost(0, 0, 120, 99), 120);
        due("at -1: hour 0", x.cost(0, 0, 121, 99), 121);
        due("at -59: hour 0", x.cost(0, 0, 179, 99), 179);
        due("at -60: hour 0", x.cost(0, 0, 180, 99), 180);
        due("at -480: hour 0", x.cost(0, 0, 600, 99), 600);
        due("at 1380: hour 23", x.cost(1, 0, 59, 99), 59 * 70);
        due("at 1379: hour 22", x.cost(1, 0, 60, 99), 60 * 67);
        due("a minute behind", x.cost(1, 0, -1, 99), 99);
        due("a minute behind, price 0", x.cost(1, 0, -1, 0), 0);
        due("of two others", x.cost(2, 0, -1, 99), 198);
        due("60 behind, of two others", x.cost(2, 0, -60, 99), 60 * 198);
        due("600 ahead of day", x.cost(2, 0, 600, 99), 600);
        for (int h = 0; h < 24; h++) x.worth(0, h, 99);
        for (int i = 0; i < 5; i++) x.end(0, 0, 20);
        x.bridge(50, 100, 0);
        due("the dearest", x.cost(1, 0, 600, 0), 100L * 100 * 600 * 99);
        x.end(7, 300, 20);
        x.crosses(7, true);
        x.bridge(100, 100, 600);
        x.meeting(0, 700, 255);
        due("900 behind seven", x.cost(3, 7, 0, 99), 100L * 20 * 900 * 7 * 99);
        due("960 behind seven", x.cost(3, 7, -60, 99), 100L * 20 * 960 * 7 * 99);
        x.bridge(1, 100, 600);
        due("by the bridge's weights", x.cost(3, 7, 0, 1), 20L * 7 * (99 * 300 + 900));
    }

    private static LateMinutes setOut(int minutes, int more) {
        LateMinutes x = new LateMinutes();
        x.meeting(0, 700, 3);
        x.meeting(0, 1439, 3);
        x.end(0, minutes, 1);
        x.crosses(0, true);
        x.bridge(1, 1, more);
        return x;
    }

    private static void outJustSo() {
        promise = "OUT";
        for (int takes : new int[] {0, 1, 2, 299, 300}) {
            due("takes " + takes, setOut(takes, 0).out(0, 0, 1), takes);
            due("takes " + takes + ", in a row", setOut(takes, 0).outTwo(0, 1, 0, 439, 2), takes);
            // At price 1 a minute late for the first one is like a minute of waiting for the second one, 300 less takes.
            due("takes " + takes + ", alike", setOut(takes, 0).outTwo(0, 1, 0, 439, 1), Math.max(0, 2 * takes - 300));
        }
        for (int more : new int[] {298, 299, 300, 301, 600}) {
            due("takes 300 and " + more, setOut(300, more).out(0, 0, 1), Math.min(600, 300 + more));
            due("in a row", setOut(300, more).outTwo(0, 1, 0, 0, 99), Math.min(600, 300 + more));
        }
        LateMinutes x = setOut(300, 0);
        for (int h = 0; h < 24; h++) x.worth(0, h, 0);
        due("waiting is worth nothing", x.out(0, 0, 1), 300);
        due("in a row", x.outTwo(0, 1, 0, 0, 1), 300);
        due("all is worth nothing", x.out(0, 0, 0), 0);
        due("in a row", x.outTwo(0, 1, 0, 0, 0), 0);
        x.worth(0, 11, 1);
        due("behind by none is like waiting", x.out(0, 0, 0), 0);
        LateMinutes y = new LateMinutes();
        y.meeting(0, 120, 3);
        y.worth(0, 1, 99);
        y.worth(0, 0, 0);
        y.end(0, 50, 1);
        y.end(0, 51, 1);
        due("both in hour 0", y.out(0, 0, 99), 112);
        y.worth(0, 1, 1);
        y.worth(0, 0, 1);
        due("a minute of either", y.out(0, 0, 1), 50);
        due("dearer to be late", y.out(0, 0, 2), 51);
    }

    private static void rowJustSo() {
        promise = "TWO in a row";
        LateMinutes x = new LateMinutes();
        x.meeting(0, 600, 3);
        x.meeting(0, 601, 7);
        x.meeting(1, 602, 3);
        due("the next minute", x.two(0, 1, 0, 1, 0, 9), 0);
        due("stays 0: a minute ahead", x.two(0, 1, 0, 0, 0, 9), 1);
        due("stays 2: a minute behind two", x.two(0, 1, 0, 2, 0, 9), 18);
        due("a minute behind the first one", x.two(0, 1, 0, 1, -1, 9), 9 + 18);
        due("a minute ahead of it: he waits", x.two(0, 1, 0, 1, 1, 9), 1);
        due("another day", x.two(0, 2, 0, 1, 0, 9), -1);
        due("turned", x.two(1, 0, 0, 1, 0, 9), -1);
        due("600", x.two(0, 1, 0, 600, 0, 1), 599 * 2);
        due("-60, 600", x.two(0, 1, 0, 600, -60, 1), 60 + 659 * 2);
        x.end(0, 30, 2);
        x.end(0, 10, 1);
        x.crosses(0, true);
        x.bridge(1, 3, 5);
        // Set out 35 ahead. Open (2): there at 595 (2) or 575 (1), on at 620, there at 650 or 630: 49 or 29 behind two.
        // Shut (1): there at 600 or 580, on at 620, there at 655 or 635: 54 or 34 behind two.
        long open = 2 * (3 * 5 + (2 * 98 + 58)) + (3 * 25 + (2 * 98 + 58));
        long shut = 2 * (3 * 0 + (2 * 108 + 68)) + (3 * 20 + (2 * 108 + 68));
        due("the bridge as it was", x.two(0, 1, 0, 20, 35, 1), 2 * open + shut);
        LateMinutes y = new LateMinutes();
        y.meeting(0, 10, 3);
        y.meeting(0, 1439, 3);
        for (int h = 0; h < 24; h++) y.worth(0, h, h);
        due("ahead of the day: hour 0; on at 610, hour 10", y.two(0, 1, 0, 600, 600, 1), 829 * 10);
    }

    /** Three who all take a sure time: each in turn the cheapest of 0 to 120, by 30 turns at most. */
    private static int turnsByHand(int[] takes, int[] worths, int price, int[] ahead) {
        for (int turn = 1; turn <= 30; turn++) {
            boolean changed = false;
            for (int p = 0; p < takes.length; p++) {
                long least = Long.MAX_VALUE;
                int best = 0;
                for (int a = 0; a <= 120; a += 5) {
                    long cost = 0;
                    int begins = Math.max(0, takes[p] - a);
                    for (int y = 0; y < takes.length; y++) {
                        if (y == p) continue;
                        begins = Math.max(begins, takes[y] - ahead[y]);
                        cost += (long) price * Math.max(0, takes[p] - a - Math.max(0, takes[y] - ahead[y]));
                    }
                    cost += (long) worths[p] * (begins - takes[p] + a);
                    if (cost < least) {
                        least = cost;
                        best = a;
                    }
                }
                changed |= best != ahead[p];
                ahead[p] = best;
            }
            if (!changed) return turn;
        }
        return -2;
    }

    private static void restOf(int[] takes, int[] worths, int price, int turns) {
        LateMinutes x = new LateMinutes();
        int m = x.meeting(0, 600, (1 << takes.length) - 1);
        for (int p = 0; p < takes.length; p++) {
            x.end(p, takes[p], 1 + p);
            x.worth(p, 10, worths[p]);
        }
        int[] ahead = new int[takes.length];
        due("by hand", turnsByHand(takes, worths, price, ahead), turns);
        due("turns", x.rest(m, price, -1), turns);
        for (int p = 0; p < takes.length; p++) due("ahead of " + p, x.rest(m, price, p), turns == -2 ? -2 : ahead[p]);
        due("not of its people", x.rest(m, price, takes.length), -3);
        due("no person", x.rest(m, price, 8), -3);
        due("not a what", x.rest(m, price, -2), -3);
        due("price 100", x.rest(m, 100, -1), -3);
    }

    private static void restByThirtyTurns() {
        promise = "AT REST, by 30 turns";
        restOf(new int[] {108, 70, 73}, new int[] {0, 7, 6}, 6, 30);
        restOf(new int[] {76, 65, 113}, new int[] {6, 0, 6}, 6, 30);
        // These would come to rest by a turn more.
        restOf(new int[] {112, 68, 98}, new int[] {8, 6, 0}, 8, -2);
        restOf(new int[] {75, 70, 103}, new int[] {8, 3, 7}, 8, -2);
        restOf(new int[] {0, 0}, new int[] {1, 1}, 1, 1);
        restOf(new int[] {0, 0, 0, 0}, new int[] {99, 99, 99, 99}, 99, 1);
        restOf(new int[] {60, 0}, new int[] {1, 1}, 1, 2);
        restOf(new int[] {60, 0}, new int[] {1, 1}, 0, 1);
        restOf(new int[] {60, 62, 64, 66}, new int[] {3, 1, 2, 1}, 5, 14);
    }

    private static void restInTurn() {
        promise = "AT REST, in turn";
        for (int late : new int[] {117, 118, 120, 121, 125, 126, 300}) {
            LateMinutes x = new LateMinutes();
            x.meeting(0, 600, 3);
            x.end(1, late, 1);
            int ahead = Math.min(120, (late + 4) / 5 * 5);
            due("takes " + late, x.rest(0, 99, 1), ahead);
            due("0 goes at 0", x.rest(0, 99, 0), 0);
        }
        LateMinutes x = new LateMinutes();
        x.meeting(0, 30, 3);
        x.end(0, 60, 1);
        x.worth(0, 0, 1);
        due("set out ahead of the day", x.rest(0, 9, 0), 60);
        LateMinutes y = new LateMinutes();
        y.meeting(0, 605, 48);
        y.end(4, 8, 1);
        y.worth(4, 10, 2);
        y.worth(4, 9, 99);
        y.end(0, 100, 1);
        y.worth(0, 10, 99);
        due("by the worth of the hour of its minute", y.rest(0, 9, 4), 10);
        due("who is not of it does not count", y.rest(0, 9, -1), 2);
        due("of 4 and 5 alone", y.rest(0, 9, 0), -3);
    }

    private static void restByWeights() {
        promise = "AT REST, by weights";
        for (int shut = 0; shut <= 10; shut++) {
            LateMinutes x = new LateMinutes();
            x.meeting(0, 600, 3);
            x.crosses(0, true);
            x.bridge(shut, 10, 60);
            // Each minute more ahead costs 1 by the weight of open, and spares 5 by the weight of shut.
            due("shut in " + shut, x.rest(0, 5, 0), shut < 2 ? 0 : 60);
            LateMinutes y = new LateMinutes();
            y.meeting(0, 600, 6);
            y.end(1, 0, 20 - shut);
            if (shut > 0) y.end(1, 60, shut);
            due("60 in " + shut + " of 20", y.rest(0, 5, 1), shut < 4 ? 0 : 60);
        }
        fourWithFiveEnds();
    }

    private static void fourWithFiveEnds() {
        LateMinutes x = new LateMinutes();
        Plain plain = new Plain();
        x.meeting(0, 600, 0x99);
        plain.meeting(0, 600, 0x99);
        for (int p : new int[] {0, 3, 4, 7}) {
            for (int i = 0; i < 5; i++) {
                x.end(p, 13 * i + 3 * p, 1 + (p + 2 * i) % 5);
                plain.end(p, 13 * i + 3 * p, 1 + (p + 2 * i) % 5);
            }
            x.worth(p, 10, 2 + p);
            plain.worth(p, 10, 2 + p);
        }
        for (int price : new int[] {0, 3, 7, 99}) {
            for (int what : new int[] {-1, 0, 3, 4, 7, 1, 8}) {
                due("price " + price + " what " + what, x.rest(0, price, what), plain.rest(0, price, what));
            }
        }
    }

    private static void restOfLikeOnes() {
        promise = "AT REST, of like ones the least";
        LateMinutes x = new LateMinutes();
        x.meeting(0, 600, 3);
        x.end(0, 50, 1);
        x.worth(0, 10, 0);
        due("50 or more cost nothing", x.rest(0, 7, 0), 50);
        due("none is as dear", x.rest(0, 0, 0), 0);
        x.end(1, 20, 1);
        due("both come 20 behind: 0", x.rest(0, 7, 0), 30);
        due("both come 20 behind: 1", x.rest(0, 7, 1), 0);
        LateMinutes likes = new LateMinutes();
        likes.meeting(0, 600, 3);
        likes.end(0, 50, 1);
        likes.worth(0, 10, 7);
        // He keeps by a minute at 7 or begins with all; each minute less is a minute of nothing: the sum stays.
        due("like from 0 to 50: 0", likes.rest(0, 0, 0), 0);
        likes.end(0, 0, 1);
        due("late by 50 or waiting by 50", likes.rest(0, 7, 0), 0);
        due("late is dearer", likes.rest(0, 8, 0), 50);
    }

    private static void waitedAtSettled() {
        promise = "lost";
        LateMinutes x = new LateMinutes();
        met(x, 0, 600, 3, 600, 601);
        due("not settled", x.lost(), 0);
        x.settle(0);
        due("a minute", x.lost(), 1);
        met(x, 0, 600, 7, 599, 600, 600);
        x.settle(1);
        due("from its minute", x.lost(), 1);
        met(x, 0, 0, 255, 0, 0, 0, 0, 0, 0, 0, 1439);
        x.settle(2);
        due("seven for the whole day", x.lost(), 1 + 7 * 1439);
        met(x, 0, 600, 3, 605, 607);
        x.settle(3);
        due("from his coming", x.lost(), 1 + 7 * 1439 + 2);
    }

    private static int next(int x) {
        return (int) ((25173L * x + 13849) % 65536);
    }

    /** By each of some seeds: the bridge, then 1, then 4, as X tells. */
    private static void drawnByX() {
        promise = "DRAWN";
        int[] minutes = {10, 20, 30, 40, 50};
        int[] weights = {1, 5, 1, 20, 2};
        for (int seed = 0; seed < 65536; seed += 37) {
            LateMinutes x = new LateMinutes();
            x.meeting(0, 600, 18);
            for (int i = 0; i < 5; i++) x.end(1, minutes[i], weights[i]);
            x.end(4, 60, 2);
            x.end(4, 0, 3);
            x.crosses(4, true);
            x.bridge(3, 7, 100);
            yes("seed", x.seed(seed));
            int bridge = next(seed);
            int first = next(bridge);
            int second = next(first);
            boolean shut = bridge % 7 < 3;
            int by1 = 0;
            for (int rest = first % 29; rest >= weights[by1]; by1++) rest -= weights[by1];
            int by4 = (second % 5 < 2 ? 60 : 0) + (shut ? 100 : 0);
            due("shut by " + seed, x.draw(0, 5), shut ? 1 : 0);
            due("X", x.count(5), second);
            due("1 and 4", x.begins(0), 595 + Math.max(minutes[by1], by4));
            due("1 keeps 4", x.keeps(0, 1, 4), Math.max(0, minutes[by1] - Math.max(5, by4)));
            due("4 keeps 1", x.keeps(0, 4, 1), Math.max(0, by4 - Math.max(5, minutes[by1])));
        }
        LateMinutes plain = new LateMinutes();
        plain.meeting(0, 600, 255);
        yes("the highest seed", plain.seed(65535));
        due("0 of 1 is never shut", plain.draw(0, 0), 0);
        int x = 65535;
        for (int i = 0; i < 9; i++) x = next(x);
        due("one for the bridge, one for each, also of those without ends", plain.count(5), x);
        due("all at its minute", plain.begins(0), 600);
        plain.bridge(1, 1, 9);
        due("1 of 1 is always shut", plain.draw(0, 0), 1);
        due("nobody crosses", plain.begins(0), 600);
    }

    private static void drawnWithinTheDay() {
        promise = "DRAWN, held to 0 and 1439";
        for (int ahead = 0; ahead < 12; ahead++) {
            LateMinutes x = new LateMinutes();
            x.meeting(0, 5, 3);
            x.meeting(0, 1434, 3);
            x.end(0, 10, 1);
            due("draw", x.draw(0, ahead), 0);
            due("they came, also at 0", x.begins(0), Math.max(5, 15 - ahead));
            due("0 keeps 1", x.keeps(0, 0, 1), Math.max(0, 10 - ahead));
            due("draw", x.draw(1, ahead), 0);
            due("1439 at most", x.begins(1), Math.max(1434, Math.min(1439, 1444 - ahead)));
        }
        LateMinutes x = new LateMinutes();
        x.meeting(0, 0, 3);
        x.meeting(0, 1439, 3);
        x.end(0, 300, 1);
        x.end(1, 300, 1);
        x.crosses(0, true);
        x.bridge(1, 1, 600);
        due("600 ahead of 0", x.draw(0, 600), 1);
        due("900 for 0", x.begins(0), 300);
        due("300 for 1, held", x.keeps(0, 0, 1), 300);
        due("at the end of the day", x.draw(1, 0), 1);
        due("both held", x.begins(1), 1439);
        due("alike", x.keeps(1, 0, 1), 0);
        due("told anew by hand", x.came(1, 0, 3) ? 1 : 0, 1);
        due("settle", x.settle(1), 0);
        int before = x.count(5);
        due("settled", x.draw(1, 0), -1);
        due("X stays", x.count(5), before);
    }

    private static void tell(LateMinutes x, int notes, int change) {
        tell(x, notes, change, 256);
    }

    private static void tell(LateMinutes x, int notes, int change, int by) {
        int[] words = new int[5];
        int at = 0;
        for (int i = 0; i < notes; i++) {
            int[] four = {i, x.noteIs(i, 0), x.noteIs(i, 1), x.noteIs(i, 2)};
            for (int w : four) {
                words[at % 5] = at == change ? w + by : w;
                if (++at % 5 == 0) x.feed(words[0], words[1], words[2], words[3], words[4]);
            }
        }
        for (; at % 5 != 0; at++) {
            words[at % 5] = 0;
            if (at % 5 == 4) x.feed(words[0], words[1], words[2], words[3], words[4]);
        }
    }

    private static LateMinutes cutInto(int notes) {
        LateMinutes x = new LateMinutes();
        note(x, 3, 5, 1000);
        for (int i = 1; i < notes; i++) x.cut(0, i);
        return x;
    }

    private static void checkedWhole() {
        promise = "CHECK";
        for (int notes : new int[] {1, 2, 24, 25}) {
            LateMinutes x = cutInto(notes);
            tell(x, notes, -1);
            due("all of " + notes, x.check(notes), -1);
            due("empty then", x.count(4), 0);
            tell(x, notes, -1);
            due("one is lacking", x.check(notes - 1), 4 * notes - 4);
            due("none told", x.check(0), 0);
            for (int change : new int[] {0, 1, 2, 3, 4 * notes - 4, 4 * notes - 1}) {
                for (int by : new int[] {1, -1, 1 << 8, 1 << 16, 1 << 24, 1 << 31}) {
                    LateMinutes y = cutInto(notes);
                    tell(y, notes, change, by);
                    due("wrong at " + change + " by " + by, y.check(notes), change);
                }
            }
        }
        LateMinutes x = cutInto(26);
        tell(x, 25, -1);
        due("the tape is full", x.count(4), 400);
        due("26 are more than it has", x.check(26), -2);
        due("the tape stays", x.count(4), 400);
        due("25 of 26", x.check(25), 100);
        LateMinutes y = cutInto(2);
        tell(y, 2, -1);
        y.feed(2, 3, 5, 1, 0);
        due("one too many", y.check(3), 8);
        y.hand(0, 3);
        y.feed(1, 3, 5, 1, 9);
        due("the live one alone", y.check(1), -1);
        y.feed(0, 3, 3, 0, 9);
        due("not the one without minutes", y.check(1), 0);
        y.hand(1, 3);
        due("none is live", y.check(0), -1);
        y.feed(1, 3, 3, 0, 9);
        due("none is live, one is told", y.check(1), 0);
        y.feed(9, 9, 9, 9, 9);
        due("none is told of 20 bytes", y.check(0), -1);
        due("empty then", y.count(4), 0);
    }
}
