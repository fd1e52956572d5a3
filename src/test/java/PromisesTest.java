/** Each promise of the document: ordinary inputs, the edges that it names, wrong inputs. */
public final class PromisesTest extends Asked {
    public static void main(String[] args) {
        newObject();
        nowMoves();
        worthIsTold();
        meetingsAreMade();
        comingsAreTold();
        tapeIsFed();
        lawIsRead();
        lawFaults();
        lawReckons();
        lawIsRefused();
        lawLetters();
        meetingBegins();
        keepsWaiting();
        keptByAnother();
        keptByTheLatest();
        owesByLaw();
        chainPays();
        chainEnds();
        settles();
        settlesUpToSixty();
        notesAreTold();
        notesAreHanded();
        notesAreCut();
        notesAreTaken();
        owedByNotes();
        calledIn();
        struckRound();
        takingsClear();
        endsAreTold();
        bridgeIsSet();
        crossing();
        lateFractions();
        hangTogether();
        costOfOne();
        outOfOne();
        costOfTwo();
        outOfTwo();
        allAtRest();
        lostMinutes();
        seedIsSet();
        comingsAreDrawn();
        notesAreChecked();
        counts();
        sum();
    }

    private static void newObject() {
        promise = "1 a new object";
        LateMinutes x = new LateMinutes();
        for (int what = 0; what < 7; what++) due("count", x.count(what), what == 5 ? 1 : 0);
        for (int p = 0; p < 8; p++) due("count", x.count(10 + p), 0);
        for (int m = 0; m < 24; m++) due("count", x.count(20 + m), -1);
        due("owed", x.owed(-1, -1), 0);
        due("round", x.round(), 0);
        due("lost", x.lost(), 0);
        due("check", x.check(0), -1);
        x.meeting(0, 600, 3);
        due("cost, worth 1 at first", x.cost(0, 1, 7, 9), 7);
        due("draw", x.draw(0, 0), 0);
        long drawn = 1;
        for (int i = 0; i < 3; i++) drawn = (25173 * drawn + 13849) % 65536;
        due("X from 1", x.count(5), drawn);
        due("NONE", LateMinutes.NONE, -1);
    }

    private static void nowMoves() {
        promise = "2 now";
        LateMinutes x = new LateMinutes();
        yes("now(0)", x.now(0));
        no("now(-1)", x.now(-1));
        no("now(100)", x.now(100));
        yes("now(5)", x.now(5));
        yes("now(5) again", x.now(5));
        no("now(4)", x.now(4));
        no("now(min)", x.now(Integer.MIN_VALUE));
        no("now(max)", x.now(Integer.MAX_VALUE));
        due("NOW", x.count(0), 5);
        yes("now(99)", x.now(99));
        due("NOW", x.count(0), 99);
    }

    private static void worthIsTold() {
        promise = "3 worth";
        LateMinutes x = new LateMinutes();
        no("p -1", x.worth(-1, 0, 0));
        no("p 8", x.worth(8, 0, 0));
        no("hour -1", x.worth(0, -1, 0));
        no("hour 24", x.worth(0, 24, 0));
        no("n -1", x.worth(0, 0, -1));
        no("n 100", x.worth(0, 0, 100));
        yes("0 0 0", x.worth(0, 0, 0));
        yes("7 23 99", x.worth(7, 23, 99));
        x.meeting(0, 1439, 129);
        due("worth of 7 at 23", x.cost(0, 7, 10, 0), 990);
        due("worth of 0 at 23", x.cost(0, 0, 10, 0), 10);
        yes("anew", x.worth(7, 23, 2));
        due("worth anew", x.cost(0, 7, 10, 0), 20);
    }

    private static void meetingsAreMade() {
        promise = "4 meeting";
        LateMinutes x = new LateMinutes();
        due("day -1", x.meeting(-1, 0, 3), -1);
        due("day 100", x.meeting(100, 0, 3), -1);
        due("minute -1", x.meeting(0, -1, 3), -1);
        due("minute 1440", x.meeting(0, 1440, 3), -1);
        due("nobody", x.meeting(0, 0, 0), -1);
        due("one", x.meeting(0, 0, 128), -1);
        due("256", x.meeting(0, 0, 257), -1);
        due("-1", x.meeting(0, 0, -1), -1);
        due("first", x.meeting(0, 0, 3), 0);
        due("all", x.meeting(99, 1439, 255), 1);
        x.now(50);
        for (int m = 2; m < 24; m++) due("a past one", x.meeting(7, m, 192), m);
        due("a 25th", x.meeting(0, 0, 3), -1);
        due("many", x.count(1), 24);
        due("minute", x.count(43), 23);
    }

    private static void comingsAreTold() {
        promise = "5 came";
        LateMinutes x = new LateMinutes();
        no("no meeting", x.came(0, 0, 0));
        x.meeting(0, 700, 129);
        no("m -1", x.came(-1, 0, 0));
        no("m 1", x.came(1, 0, 0));
        no("not of it", x.came(0, 1, 0));
        no("p -1", x.came(0, -1, 0));
        no("p 8", x.came(0, 8, 0));
        no("p 32", x.came(0, 32, 0));
        no("minute -1", x.came(0, 0, -1));
        no("minute 1440", x.came(0, 0, 1440));
        yes("0", x.came(0, 0, 0));
        yes("1439", x.came(0, 7, 1439));
        due("begins", x.begins(0), 1439);
        yes("anew", x.came(0, 7, 705));
        due("begins", x.begins(0), 705);
        due("settle", x.settle(0), 0);
        no("settled", x.came(0, 7, 706));
        due("begins", x.begins(0), 705);
    }

    private static void tapeIsFed() {
        promise = "6 feed";
        LateMinutes x = new LateMinutes();
        // "o7(0" "=0)a": the highest byte of each int comes first.
        due("feed", x.feed(0x6f372830, 0x3d302961, 0, 0, 0), 20);
        due("law", x.law(7), 1);
        for (int i = 1; i <= 20; i++) due("feed", x.feed(-1, i, 0, Integer.MIN_VALUE, 7), 20 * i);
        due("more than 400", x.feed(1, 2, 3, 4, 5), -1);
        due("bytes", x.count(4), 400);
        due("law of high bytes", x.law(200), -1000);
        due("bytes", x.count(4), 0);
        due("feed", x.feed(0, 0, 0, 0, 0), 20);
    }

    private static void lawIsRead() {
        promise = "7 law";
        LateMinutes x = new LateMinutes();
        due("nothing fed", x.law(1), -1);
        feed(x, "o7(1=1);p8(1=1);l9(1=1)");
        due("n 0", x.law(0), -1);
        due("n -1", x.law(-1), -1);
        due("n 201", x.law(201), -1);
        due("n 41", x.law(41), -1);
        due("the tape stays", x.count(4), 40);
        due("law", x.law(23), 3);
        due("empty then", x.count(4), 0);
        due("clauses", x.count(3), 3);
        met(x, 0, 600, 3, 600, 600);
        due("o", x.owes(0, 0, 1, 0), 7);
        due("p", x.owes(0, 0, 1, 1), 8);
        due("l", x.owes(0, 0, 1, 2), 9);
        due("a fault", law(x, "o8(1=1)o"), -1007);
        due("empty then, too", x.count(4), 0);
        due("the law before stays", x.owes(0, 0, 1, 0), 7);
        due("clauses stay", x.count(3), 3);
        due("in its place", law(x, "o8(1=1)"), 1);
        due("o", x.owes(0, 0, 1, 0), 8);
        due("no p", x.owes(0, 0, 1, 1), 0);
        StringBuilder longest = new StringBuilder("o1");
        while (longest.length() < 194) longest.append("+1");
        longest.append("(1=1)");
        due("199 bytes", law(x, longest.toString()), 1);
        longest.insert(1, '2');
        due("200 bytes", law(x, longest.toString()), 1);
        due("o", x.owes(0, 0, 1, 0), 21 + 96);
        longest.insert(1, '2');
        feed(x, longest.toString());
        due("201 bytes", x.law(201), -1);
        due("the tape stays", x.count(4), 220);
        due("200 of them", x.law(200), -1200);
        StringBuilder fourteen = new StringBuilder("o1(1=1)");
        for (int i = 1; i < 14; i++) fourteen.append(";o1(1=1)");
        due("14 clauses", law(x, fourteen.toString()), 14);
        due("a 15th", law(x, fourteen + ";o1(1=1)"), -4000 - 112);
        due("a 15th that can't stand", law(x, fourteen + ";h1(1=1)"), -1000 - 112);
        due("a 15th that is lacking", law(x, fourteen + ";"), -1000 - 112);
        due("no ; ahead of a 15th", law(x, fourteen + "o1(1=1)"), -1000 - 111);
    }

    private static void lawFaults() {
        promise = "7 law, faults";
        String whole = "ow(w>0)";
        for (int n = 1; n < whole.length(); n++) due("the end at " + n, law(whole.substring(0, n)), -1000 - n);
        due("whole", law(whole), 1);
        due(";", law(";"), -1000);
        due("an end behind ;", law("ow(w>0);"), -1008);
        due("two ;", law("ow(w>0);;"), -1008);
        due("no E", law("o(1=1)"), -1001);
        due("a blank", law("o 1(1=1)"), -1001);
        due("a capital", law("O1(1=1)"), -1000);
        due("another letter", law("w1(1=1)"), -1000);
        due("no such letter", law("oq(1=1)"), -1001);
        due("o in an E", law("oo(1=1)"), -1001);
        due("a minus alone", law("o-1(1=1)"), -1001);
        due("two signs", law("o1+-1(1=1)"), -1003);
        due("( in an E", law("o1+(1)(1=1)"), -1003);
        due("no comparison", law("o1(1)"), -1004);
        due("two comparisons", law("o1(1=1=1)"), -1006);
        due("[ of a C", law("o1([1=1])"), -1005);
        due("] alone", law("o1](1=1)"), -1002);
        due("empty [", law("o[](1=1)"), -1002);
        due("empty C", law("o1()"), -1003);
        due("C behind C", law("o1(1=1)(1=1)"), -1007);
        due("! in an E", law("o!1(1=1)"), -1001);
        due("& at the end", law("o1(1=1&)"), -1007);
        due("| ahead", law("o1(|1=1)"), -1003);
        due("number then letter", law("o1w(1=1)"), -1002);
        due("letter then number", law("ow1(1=1)"), -1002);
        due("five digits", law("o12345(1=1)"), 1);
        due("a sixth", law("o123456(1=1)"), -2006);
        due("a sixth of zeros", law("o000000(1=1)"), -2006);
        due("a sixth in a C", law("o1(1=654321)"), -2010);
        due("a seventh, too: the first one counts", law("o1234567(1=1)"), -2006);
        due("six [", law("o[[[[[[1]]]]]](1=1)"), 1);
        due("seven [", law("o[[[[[[[1]]]]]]](1=1)"), -5007);
        due("six (", law("o1((((((1=1))))))"), 1);
        due("seven (", law("o1(((((((1=1)))))))"), -5008);
        due("( and five !", law("o1(!!!!!1=1)"), 1);
        due("( and six !", law("o1(!!!!!!1=1)"), -5008);
        due("! open in its E", law("o1(!!!!![1]=1)"), -5008);
        due("! shut behind its PIECE", law("o1(!1=1&!1=1&!1=1&!1=1&!1=1&!1=1&!1=1)"), 1);
        due("six mixed", law("o1(!(!([1]=1)))"), 1);
        due("seven mixed", law("o1(!(!([[1]]=1)))"), -5008);
        due("seven mixed", law("o1(!(!(!1=[1])))"), -5010);
        due("[ that is shut", law("o[1]+[1]+[1]+[1]+[1]+[1]+[1]([1]=[1])"), 1);
        due("one that can't stand where a seventh would be", law("o1((((((1(1=1)"), -1009);
    }

    private static int reckoned(String e) {
        LateMinutes x = new LateMinutes();
        met(x, 3, 600, 7, 620, 590, 605);
        due("law " + e, law(x, "o" + e + "(1=1)"), 1);
        return x.owes(0, 0, 1, 0);
    }

    private static void lawReckons() {
        promise = "7 law, E";
        due("+ - from the left", reckoned("9-3+2"), 8);
        due("* / % from the left", reckoned("100/7/2"), 7);
        due("* / % from the left", reckoned("7*8%5"), 1);
        due("* ahead of +", reckoned("2+3*4-1"), 13);
        due("several", reckoned("1+2*3+4*5-6/2"), 24);
        due("[", reckoned("[2+3]*4"), 20);
        due("[ in [", reckoned("2*[3+[4-1]*2]"), 18);
        due("towards 0", reckoned("10+[0-7]/2"), 7);
        due("its remainder", reckoned("10+[0-7]%4"), 7);
        due("32 bits", reckoned("65536*65536+5"), 5);
        due("32 bits", reckoned("65536*32768/65536+32769"), 1);
        due("below its bound", reckoned("3-5"), 0);
        due("beyond its bound", reckoned("1441"), 1440);
        due("at its bound", reckoned("1440"), 1440);
        due("zeros ahead", reckoned("00012"), 12);
        due("divided by 0", reckoned("5/0"), 0);
        due("divided by 0, the rest", reckoned("5+1%b"), 0);
        due("0 through 0", reckoned("0*[1/0]+3"), 0);
        LateMinutes x = new LateMinutes();
        met(x, 0, 600, 3, 600, 600);
        law(x, "o5/0(1=1);o7(1=1);p200(1=1);l101(1=1)");
        due("the first that holds, refused", x.owes(0, 0, 1, 0), 0);
        due("p", x.owes(0, 0, 1, 1), 100);
        due("l", x.owes(0, 0, 1, 2), 100);
        law(x, "p0-1(1=1);l0-1(1=1)");
        due("p", x.owes(0, 0, 1, 1), 0);
        due("l", x.owes(0, 0, 1, 2), 0);
        due("none", x.owes(0, 0, 1, 0), 0);
    }

    private static void holds(String c, boolean want) {
        LateMinutes x = new LateMinutes();
        met(x, 3, 600, 7, 620, 590, 605);
        due("law " + c, law(x, "o5(" + c + ");o7(1=1)"), 2);
        due(c, x.owes(0, 0, 1, 0), want ? 5 : 7);
    }

    private static void lawIsRefused() {
        promise = "7 law, C";
        holds("1<2", true);
        holds("2<2", false);
        holds("2>1", true);
        holds("2>2", false);
        holds("2=2", true);
        holds("1=2", false);
        holds("0-1<0", true);
        holds("1=1&1=2", false);
        holds("1=1|1=2", true);
        holds("1=2|1=1&1=2|1=1", true);
        holds("1=2&1=1|1=1", true);
        holds("1=1|1=1&1=2", true);
        holds("(1=1|1=1)&1=2", false);
        holds("!1=2", true);
        holds("!1=1|1=1", true);
        holds("!1=1&1=2|1=2", false);
        holds("!!1=1", true);
        holds("!(1=2|1=2)", true);
        holds("1/0=1", false);
        holds("!1/0=1", false);
        holds("1%0=1|1=1", false);
        holds("(1/0=1)|1=1", false);
        holds("!(1/0=1)|1=1", false);
        holds("1=1|1/0=1", true);
        holds("1=2&1/0=1|1=1", true);
        holds("1=1&1/0=1|1=1", false);
        holds("!(1=2&1/0=1)", true);
        holds("(1=1|1/0=1)&1=1", true);
        holds("(1=2|1/0=1)|1=1", false);
        holds("1=[1/b]|1=1", false);
    }

    private static void lawLetters() {
        promise = "7 law, letters";
        LateMinutes x = new LateMinutes();
        met(x, 3, 599, 7, 609, 590, 605);
        met(x, 3, 600, 7, 620, 590, 605);
        x.worth(1, 10, 33);
        String letters = "wabngkrhdxyv";
        int[] ofTwo = {20, 20, 0, 3, 20, 0, 0, 10, 3, 0, 1, 33};
        int[] ofOne = {0, 5, 20, 3, 20, 1, 1, 10, 3, 2, 0, 1};
        for (int i = 0; i < 12; i++) {
            law(x, "o" + letters.charAt(i) + "(1=1)");
            due(letters.charAt(i) + " of 0 and 1", x.owes(1, 0, 1, 0), ofTwo[i]);
            due(letters.charAt(i) + " of 2 and 0", x.owes(1, 2, 0, 0), ofOne[i]);
        }
        x.now(4);
        law(x, "od(1=1)");
        due("d is the day of the meeting", x.owes(1, 0, 1, 0), 3);
        met(x, 5, 600, 7, 700, 700, 600);
        law(x, "or(1=1)");
        due("r: later, not as late", x.owes(2, 0, 1, 0), 0);
        due("r", x.owes(2, 2, 1, 0), 2);
    }

    private static void meetingBegins() {
        promise = "8 begins";
        LateMinutes x = new LateMinutes();
        due("no meeting", x.begins(0), -1);
        x.meeting(0, 600, 7);
        x.came(0, 0, 10);
        x.came(0, 2, 20);
        due("not all", x.begins(0), -1);
        x.came(0, 1, 30);
        due("its minute", x.begins(0), 600);
        x.came(0, 1, 601);
        due("the latest", x.begins(0), 601);
        due("-1", x.begins(-1), -1);
        due("24", x.begins(24), -1);
    }

    private static void keepsWaiting() {
        promise = "9 keeps";
        LateMinutes x = new LateMinutes();
        due("no meeting", x.keeps(0, 0, 1), -1);
        x.meeting(0, 600, 15);
        x.came(0, 0, 620);
        due("y did not come", x.keeps(0, 0, 1), -1);
        due("x did not come", x.keeps(0, 1, 0), -1);
        x.came(0, 1, 590);
        x.came(0, 2, 605);
        due("from its minute", x.keeps(0, 0, 1), 20);
        due("from y's coming", x.keeps(0, 0, 2), 15);
        due("not below 0", x.keeps(0, 2, 0), 0);
        due("not below 0", x.keeps(0, 1, 0), 0);
        due("one twice", x.keeps(0, 0, 0), -1);
        due("not of it", x.keeps(0, 0, 4), -1);
        due("no such x", x.keeps(0, -1, 0), -1);
        due("no such y", x.keeps(0, 0, 8), -1);
        due("no such m", x.keeps(1, 0, 1), -1);
    }

    private static void keptByAnother() {
        promise = "10 kept";
        LateMinutes x = new LateMinutes();
        due("no meeting", x.kept(0, 0, 0), -1);
        int first = met(x, 0, 500, 7, 490, 530, 510);
        int asked = x.meeting(0, 600, 11);
        due("he did not come", x.kept(asked, 0, 0), -1);
        due("not of it", x.kept(asked, 2, 0), -1);
        x.came(asked, 0, 600);
        due("not late", x.kept(asked, 0, 0), -2);
        x.came(asked, 0, 630);
        due("just so", x.kept(asked, 0, 0), first);
        due("its keeper", x.kept(asked, 0, 1), 1);
        x.came(asked, 0, 631);
        due("late by himself", x.kept(asked, 0, 0), -2);
        due("late by himself", x.kept(asked, 0, 1), -2);
        x.came(asked, 0, 601);
        due("by a minute", x.kept(asked, 0, 0), first);
        x.came(asked, 1, 610);
        due("its keeper is not kept", x.kept(asked, 1, 0), -2);
        x.came(asked, 3, 610);
        due("he was not there", x.kept(asked, 3, 0), -2);
        due("what 2", x.kept(asked, 0, 2), -1);
        due("what -1", x.kept(asked, 0, -1), -1);
        due("p 8", x.kept(asked, 8, 0), -1);
        due("m 9", x.kept(9, 0, 0), -1);
        x.came(first, 2, 530);
        due("of like keepers the lowest", x.kept(asked, 0, 1), 1);
        due("the lowest is not kept", x.kept(asked, 1, 0), -2);
        x.came(first, 0, 530);
        due("he is the lowest himself", x.kept(asked, 0, 0), -2);
        due("the other one is kept", x.kept(asked, 1, 1), 0);
        x.came(first, 0, 490);
        x.came(first, 1, 490);
        x.came(first, 2, 500);
        due("it began in time", x.kept(asked, 0, 0), -2);
    }

    private static void keptByTheLatest() {
        promise = "10 kept, by which";
        LateMinutes x = new LateMinutes();
        int asked = met(x, 5, 600, 3, 610, 600);
        int otherDay = met(x, 4, 500, 5, 500, 550);
        due("of another day", x.kept(asked, 0, 0), -2);
        int same = met(x, 5, 600, 5, 600, 650);
        due("of the same minute", x.kept(asked, 0, 0), -2);
        int open = met(x, 5, 550, 5, 560);
        due("not all came there", x.kept(asked, 0, 0), -2);
        int early = met(x, 5, 500, 5, 500, 550);
        due("this one", x.kept(asked, 0, 0), early);
        int earlier = met(x, 5, 400, 5, 400, 450);
        due("of the latest minute", x.kept(asked, 0, 0), early);
        int like = met(x, 5, 500, 9, 500, 540);
        due("of the highest number", x.kept(asked, 0, 0), like);
        due("its keeper", x.kept(asked, 0, 1), 3);
        x.came(open, 2, 560);
        due("all came there", x.kept(asked, 0, 0), like);
        x.came(open, 2, 561);
        due("the latest minute", x.kept(asked, 0, 0), open);
        due("numbers", otherDay + same + earlier, 1 + 2 + 5);
    }

    private static void owesByLaw() {
        promise = "11 owes";
        LateMinutes x = new LateMinutes();
        met(x, 0, 600, 7, 620, 590);
        law(x, "ow(w>15);o3(a>b);p10+x(1=1);ly(x<y)");
        due("not all came", x.owes(0, 0, 1, 0), -1);
        x.came(0, 2, 606);
        due("first clause", x.owes(0, 0, 1, 0), 20);
        due("second clause", x.owes(0, 0, 2, 0), 3);
        due("none", x.owes(0, 1, 0, 0), 0);
        due("hundredths", x.owes(0, 2, 0, 1), 12);
        due("days", x.owes(0, 0, 2, 2), 2);
        due("no days", x.owes(0, 2, 0, 2), 0);
        due("what 3", x.owes(0, 0, 1, 3), -1);
        due("what -1", x.owes(0, 0, 1, -1), -1);
        due("one twice", x.owes(0, 1, 1, 0), -1);
        due("not of it", x.owes(0, 0, 3, 0), -1);
        due("not of it", x.owes(0, 3, 0, 0), -1);
        due("p -1", x.owes(0, -1, 0, 0), -1);
        due("m 1", x.owes(1, 0, 1, 0), -1);
        x.settle(0);
        due("settled, too", x.owes(0, 0, 1, 0), 20);
    }

    /** Three meetings in a row: 2 keeps 0 at the first, 0 keeps 1 at the second, 1 is late at the third. */
    private static LateMinutes row(String text) {
        LateMinutes x = new LateMinutes();
        law(x, text);
        met(x, 0, 500, 5, 500, 540);
        met(x, 0, 600, 3, 640, 600);
        met(x, 0, 700, 14, 740, 700, 700);
        return x;
    }

    private static void chainPays() {
        promise = "12 chain";
        LateMinutes x = row("o25(w>0);p50(1=1)");
        due("three pay", x.chain(2, 1, 3, 0), 3);
        due("who", x.chain(2, 1, 3, 10), 1);
        due("who", x.chain(2, 1, 3, 11), 0);
        due("who", x.chain(2, 1, 3, 12), 2);
        due("no fourth", x.chain(2, 1, 3, 13), -1);
        due("minutes", x.chain(2, 1, 3, 20), 13);
        due("minutes", x.chain(2, 1, 3, 21), 6);
        due("minutes", x.chain(2, 1, 3, 22), 6);
        due("no fourth", x.chain(2, 1, 3, 23), -1);
        due("y's own counts", x.chain(2, 1, 2, 12), 2);
        due("y's own counts", x.chain(2, 1, 2, 22), 6);
        due("what 1", x.chain(2, 1, 3, 1), -1);
        due("what 9", x.chain(2, 1, 3, 9), -1);
        due("what 19", x.chain(2, 1, 3, 19), -1);
        due("what -1", x.chain(2, 1, 3, -1), -1);
        due("what min", x.chain(2, 1, 3, Integer.MIN_VALUE), -1);
        due("what max", x.chain(2, 1, 3, Integer.MAX_VALUE), -1);
        due("one twice", x.chain(2, 1, 1, 0), -1);
        due("not of it", x.chain(2, 1, 0, 0), -1);
        due("m 3", x.chain(3, 1, 3, 0), -1);
        x.meeting(0, 900, 3);
        due("not all came", x.chain(3, 0, 1, 0), -1);
        due("he was not kept", x.chain(0, 2, 0, 0), 1);
        due("all of it", x.chain(0, 2, 0, 20), 25);
    }

    private static void chainEnds() {
        promise = "12 chain, its end";
        LateMinutes x = row("o25(w>0);p100(1=1)");
        due("parts of 0 count", x.chain(2, 1, 3, 0), 3);
        due("0", x.chain(2, 1, 3, 20), 0);
        due("0", x.chain(2, 1, 3, 21), 0);
        due("all", x.chain(2, 1, 3, 22), 25);
        x = row("o25(w>0)");
        due("nothing to pass on", x.chain(2, 1, 3, 0), 1);
        due("all", x.chain(2, 1, 3, 20), 25);
        x = row("o3(w>0);p34(1=1)");
        due("1 and then nothing", x.chain(2, 1, 3, 0), 2);
        due("rounded down", x.chain(2, 1, 3, 21), 1);
        x = row("o0(w>0);p100(1=1)");
        due("nothing owed", x.chain(2, 1, 3, 0), 1);
        due("nothing owed", x.chain(2, 1, 3, 20), 0);
        LateMinutes y = new LateMinutes();
        law(y, "o1000(1=1);p100(1=1)");
        for (int m = 0; m < 24; m++) {
            // 0 and 1 keep one another in turn, so each passes on to the other one.
            met(y, 0, 10 * m, 3, 10 * m + (m % 2 == 0 ? 5 : 1), 10 * m + (m % 2 == 0 ? 1 : 5));
        }
        due("the longest chain", y.chain(23, 1, 0, 0), 24);
        due("place 9", y.chain(23, 1, 0, 19), 0);
        due("minutes of place 23", y.chain(23, 1, 0, 43), 1000);
        due("minutes of place 22", y.chain(23, 1, 0, 42), 0);
        due("minutes of place 24", y.chain(23, 1, 0, 44), -1);
    }

    private static void settles() {
        promise = "13 settle";
        LateMinutes x = row("o25(w>0);p50(1=1);l3(x=1)");
        x.meeting(4, 600, 3);
        due("m -1", x.settle(-1), -1);
        due("m 4", x.settle(4), -1);
        due("not all came", x.settle(3), -1);
        x.came(3, 0, 600);
        x.came(3, 1, 650);
        due("its day is ahead", x.settle(3), -1);
        due("2 owes 0", x.settle(0), 1);
        due("again", x.settle(0), -1);
        due("along the chain: to 2, 2's own not, to 3", x.settle(2), 5);
        int[][] want = {{2, 0, 25, 0, -1}, {1, 2, 13, 0, 3}, {0, 2, 6, 0, 3},
            {1, 3, 13, 0, 3}, {0, 3, 6, 0, 3}, {2, 3, 6, 0, 3}};
        for (int i = 0; i < 6; i++) {
            for (int what = 0; what < 5; what++) due("note " + i + " " + what, x.noteIs(i, what), want[i][what]);
        }
        due("notes", x.count(2), 6);
        x.now(5);
        due("it was ahead", x.settle(3), 1);
        due("made NOW", x.noteIs(6, 3), 5);
        due("lapses from NOW on", x.noteIs(6, 4), 8);
        due("settled", x.count(6), 3);
        LateMinutes none = new LateMinutes();
        met(none, 0, 600, 3, 650, 600);
        due("without a law", none.settle(0), 0);
        due("settled", none.count(6), 1);
    }

    private static void settlesUpToSixty() {
        promise = "13 settle, 60 notes";
        LateMinutes x = new LateMinutes();
        law(x, "o1(1=1)");
        met(x, 0, 600, 255, 600, 600, 600, 600, 600, 600, 600, 600);
        met(x, 0, 600, 3, 600, 600);
        met(x, 0, 600, 7, 600, 600, 600);
        met(x, 0, 600, 3, 600, 600);
        due("56", x.settle(0), 56);
        due("58", x.settle(1), 2);
        due("64", x.settle(2), -2);
        due("refused", x.count(2), 58);
        due("refused", x.count(6), 2);
        due("refused", x.owed(-1, -1), 58);
        yes("not settled", x.came(2, 0, 600));
        due("60", x.settle(3), 2);
        due("60", x.count(2), 60);
        due("still", x.settle(2), -2);
        law(x, "o0(1=1)");
        due("none more", x.settle(2), 0);
    }

    private static void notesAreTold() {
        promise = "14 noteIs";
        LateMinutes x = new LateMinutes();
        due("none", x.noteIs(0, 0), -1000);
        law(x, "ow(w>0);l2(1=1)");
        x.now(7);
        met(x, 6, 600, 9, 600, 611);
        due("settle", x.settle(0), 1);
        int[] want = {3, 0, 11, 7, 9, 1};
        for (int what = 0; what < 6; what++) due("what " + what, x.noteIs(0, what), want[what]);
        due("what 6", x.noteIs(0, 6), -1000);
        due("what -1", x.noteIs(0, -1), -1000);
        due("note 1", x.noteIs(1, 0), -1000);
        due("note -1", x.noteIs(-1, 0), -1000);
        x.now(8);
        due("live", x.noteIs(0, 5), 1);
        x.now(9);
        due("lapsed", x.noteIs(0, 5), 0);
        due("minutes stay", x.noteIs(0, 2), 11);
        law(x, "ow(w>0);l100(1=1)");
        x.now(99);
        met(x, 99, 600, 9, 600, 611);
        x.settle(1);
        due("beyond the last day", x.noteIs(1, 4), 199);
    }

    private static void notesAreHanded() {
        promise = "15 hand";
        LateMinutes x = new LateMinutes();
        no("none", x.hand(0, 1));
        note(x, 2, 0, 30);
        no("he has it", x.hand(0, 0));
        no("p -1", x.hand(0, -1));
        no("p 8", x.hand(0, 8));
        no("note 1", x.hand(1, 1));
        yes("to 7", x.hand(0, 7));
        due("has it", x.noteIs(0, 1), 7);
        due("minutes", x.noteIs(0, 2), 30);
        due("owed", x.owed(2, 7), 30);
        yes("to who owes", x.hand(0, 2));
        due("has it", x.noteIs(0, 1), 2);
        due("minutes", x.noteIs(0, 2), 0);
        due("live", x.noteIs(0, 5), 0);
        no("not live", x.hand(0, 1));
        LateMinutes y = new LateMinutes();
        law(y, "ow(w>0);l1(1=1)");
        met(y, 0, 600, 3, 610, 600);
        y.settle(0);
        y.now(1);
        no("lapsed", y.hand(0, 2));
        due("stays", y.noteIs(0, 1), 1);
    }

    private static void notesAreCut() {
        promise = "16 cut";
        LateMinutes x = new LateMinutes();
        due("none", x.cut(0, 1), -1);
        x.now(2);
        law(x, "ow(w>0);l4(1=1)");
        met(x, 0, 600, 3, 630, 600);
        x.settle(0);
        x.now(3);
        due("0", x.cut(0, 0), -1);
        due("-1", x.cut(0, -1), -1);
        due("all", x.cut(0, 30), -1);
        due("all but one", x.cut(0, 29), 1);
        int[] want = {0, 1, 29, 2, 6, 1};
        for (int what = 0; what < 6; what++) due("what " + what, x.noteIs(1, what), want[what]);
        due("left", x.noteIs(0, 2), 1);
        due("has only 1", x.cut(0, 1), -1);
        due("no such", x.cut(2, 1), -1);
        due("no such", x.cut(-1, 1), -1);
        for (int i = 2; i < 30; i++) due("cut", x.cut(i - 1, 29 - i + 1), i);
        x.now(6);
        due("lapsed", x.cut(1, 1), -1);
        LateMinutes y = new LateMinutes();
        note(y, 0, 1, 500);
        for (int i = 1; i < 60; i++) due("cut", y.cut(0, 1), i);
        due("60 are there", y.cut(0, 1), -1);
        due("left", y.noteIs(0, 2), 441);
    }

    private static void notesAreTaken() {
        promise = "17 take";
        LateMinutes x = new LateMinutes();
        due("none", x.take(0, 1, 0), -1);
        note(x, 0, 1, 100);
        note(x, 0, 2, 100);
        note(x, 3, 1, 100);
        due("0", x.take(0, 0, 5), -1);
        due("61", x.take(0, 61, 5), -1);
        due("hour 24", x.take(0, 1, 24), -1);
        due("hour -1", x.take(0, 1, -1), -1);
        due("no such", x.take(3, 1, 5), -1);
        due("40", x.take(0, 40, 5), 60);
        due("one who owes: 61", x.take(1, 21, 5), -1);
        due("one who takes: 61", x.take(2, 21, 5), -1);
        due("refused", x.noteIs(1, 2), 100);
        due("60 by one who owes", x.take(1, 20, 5), 80);
        due("60 by one who takes", x.take(2, 20, 5), 80);
        due("full", x.take(0, 1, 5), -1);
        due("another hour", x.take(0, 60, 6), 0);
        due("not live", x.take(0, 1, 7), -1);
        x.now(0);
        due("the same day", x.take(1, 1, 5), -1);
        x.now(1);
        due("another day", x.take(1, 60, 5), 20);
        due("not so many", x.take(1, 21, 7), -1);
        due("all", x.take(1, 20, 7), 0);
        note(x, 1, 0, 60);
        due("1 takes", x.take(2, 60, 9), 20);
        due("and gives, too", x.take(3, 60, 9), 0);
        law(x, "ow(w>0);l1(1=1)");
        int m = met(x, 1, 600, 3, 610, 600);
        x.settle(m);
        x.now(2);
        due("lapsed", x.take(4, 1, 0), -1);
    }

    private static void owedByNotes() {
        promise = "18 owed";
        LateMinutes x = new LateMinutes();
        note(x, 0, 1, 10);
        note(x, 0, 2, 20);
        note(x, 1, 0, 30);
        note(x, 0, 1, 5);
        due("0 to 1", x.owed(0, 1), 15);
        due("1 to 0", x.owed(1, 0), 30);
        due("0 to all", x.owed(0, -1), 35);
        due("by all to 0", x.owed(-1, 0), 30);
        due("by all to 2", x.owed(-1, 2), 20);
        due("all", x.owed(-1, -1), 65);
        due("none", x.owed(5, 6), 0);
        due("one twice", x.owed(0, 0), -1);
        due("-2", x.owed(-2, 0), -1);
        due("8", x.owed(0, 8), -1);
        due("8", x.owed(8, -1), -1);
        x.hand(1, 0);
        due("not live", x.owed(0, -1), 15);
    }

    private static void calledIn() {
        promise = "19 called";
        LateMinutes x = new LateMinutes();
        due("y -1", x.called(-1, 0), -1);
        due("y 8", x.called(8, 0), -1);
        due("days -1", x.called(0, -1), -1);
        due("days 7", x.called(0, 7), -1);
        due("no notes", x.called(0, 6), 0);
        for (int h = 0; h < 24; h++) x.worth(1, h, 0);
        x.worth(1, 9, 10);
        x.worth(1, 10, 5);
        law(x, "o100(x=0&y=1);o100(x=2&y=1);l1(x=0)");
        met(x, 0, 600, 7, 600, 600, 600);
        due("settle", x.settle(0), 2);
        due("one day", x.called(1, 0), 900);
        due("two days, one note lapses", x.called(1, 1), 120 * 10 + 80 * 5);
        due("three days: the one that lapses on day 0", x.called(1, 2), 160 * 10 + 40 * 5);
        due("four days", x.called(1, 3), 160 * 10 + 40 * 5);
        due("nothing to 0", x.called(0, 6), 0);
        due("taken", x.take(0, 50, 9), 50);
        due("the hour has 10 left", x.called(1, 0), 10 * 10 + 60 * 5);
        due("what others gave does not count", x.take(1, 10, 10), 90);
        due("the hour has 50 left", x.called(1, 0), 10 * 10 + 50 * 5);
        x.now(1);
        due("one has lapsed, hours are empty", x.called(1, 0), 60 * 10 + 30 * 5);
        due("two days", x.called(1, 1), 900);
        LateMinutes y = new LateMinutes();
        note(y, 0, 1, 30);
        note(y, 0, 2, 30);
        y.worth(2, 8, 2);
        due("0 gives to 1", y.take(0, 30, 8), 0);
        due("that is not counted for 2", y.called(2, 0), 60);
        calledOnTheLastDays();
    }

    private static void calledOnTheLastDays() {
        LateMinutes x = new LateMinutes();
        for (int h = 0; h < 24; h++) x.worth(1, h, 0);
        x.worth(1, 9, 1);
        note(x, 0, 1, 1000);
        for (int now = 90; now < 100; now++) {
            yes("now " + now, x.now(now));
            for (int days = 0; days < 7; days++) {
                int left = Math.min(days + 1, 100 - now);
                due("now " + now + ", days " + days, x.called(1, days), 60 * left);
            }
        }
        due("taken on the last day", x.take(0, 20, 9), 980);
        due("the hour of the last day has 40 left", x.called(1, 6), 40);
        law(x, "o90(x=0&y=1);l1(1=1)");
        met(x, 99, 600, 3, 600, 600);
        due("settled on the last day", x.settle(1), 1);
        due("it lapses from day 100 on", x.noteIs(1, 4), 100);
        due("both are live on the last day", x.called(1, 6), 40);
        x.worth(1, 10, 2);
        due("the dearer hour, too", x.called(1, 6), 60 * 2 + 40);
        due("refused on the last day, too", x.called(1, 7), -1);
    }

    private static void struckRound() {
        promise = "20 round";
        LateMinutes x = new LateMinutes();
        due("nothing", x.round(), 0);
        note(x, 0, 1, 40);
        note(x, 1, 2, 30);
        due("a row stays", x.round(), 70);
        note(x, 2, 0, 20);
        due("a round is struck", x.round(), 30);
        note(x, 1, 0, 15);
        due("two rounds, one of two", x.round(), 40 + 30 + 20 + 15 - 2 * 15 - 3 * 20);
        x.hand(0, 0);
        due("not live", x.round(), 65);
        due("nothing is changed", x.owed(-1, -1), 65);
        LateMinutes y = new LateMinutes();
        // Of 0 to 1 more is owed than back, so the longer way may be struck instead of the shorter.
        note(y, 0, 1, 10);
        note(y, 1, 0, 5);
        note(y, 0, 2, 3);
        note(y, 2, 3, 3);
        note(y, 3, 1, 3);
        due("the longer round first", y.round(), 24 - 3 * 4 - 2 * 2);
    }

    private static void takingsClear() {
        promise = "21 takings";
        LateMinutes x = new LateMinutes();
        due("nothing", x.takings(), 0);
        note(x, 0, 1, 40);
        due("one", x.takings(), 1);
        note(x, 1, 2, 40);
        due("through 1", x.takings(), 1);
        note(x, 3, 4, 7);
        due("two", x.takings(), 2);
        note(x, 5, 2, 3);
        due("three", x.takings(), 3);
        note(x, 5, 6, 2);
        note(x, 5, 7, 2);
        // 0 -40, 2 +43, 3 -7, 4 +7, 5 -7, 6 +2, 7 +2: 3 with 4, the others by four.
        due("a clear group saves one", x.takings(), 5);
        x.hand(2, 3);
        due("less", x.takings(), 4);
        LateMinutes y = new LateMinutes();
        note(y, 0, 1, 10);
        note(y, 1, 2, 10);
        note(y, 2, 0, 10);
        due("all are clear", y.takings(), 0);
    }

    private static void endsAreTold() {
        promise = "22 end";
        LateMinutes x = new LateMinutes();
        due("p -1", x.end(-1, 0, 1), -1);
        due("p 8", x.end(8, 0, 1), -1);
        due("minutes -1", x.end(0, -1, 1), -1);
        due("minutes 301", x.end(0, 301, 1), -1);
        due("weight 0", x.end(0, 0, 0), -1);
        due("weight 21", x.end(0, 0, 21), -1);
        due("none told", x.lateIf(0, 0, 0), 0);
        due("1", x.end(0, 300, 20), 1);
        due("the one of 0 minutes is gone", x.lateIf(0, 299, 0), 1);
        due("the one of 0 minutes is gone", x.lateIf(0, 299, 1), 1);
        due("2", x.end(0, 0, 1), 2);
        due("below", x.lateIf(0, 0, 1), 21);
        for (int i = 3; i <= 5; i++) due("more", x.end(0, 300, 20), i);
        due("five are there", x.end(0, 1, 1), -1);
        due("told", x.count(10), 5);
        due("of another one", x.end(7, 1, 1), 1);
    }

    private static void bridgeIsSet() {
        promise = "23 bridge";
        LateMinutes x = new LateMinutes();
        no("s above all", x.bridge(2, 1, 0));
        no("s -1", x.bridge(-1, 1, 0));
        no("all 0", x.bridge(0, 0, 0));
        no("all 101", x.bridge(0, 101, 0));
        no("more -1", x.bridge(0, 1, -1));
        no("more 601", x.bridge(0, 1, 601));
        x.crosses(0, true);
        due("never shut at first", x.lateIf(0, 0, 0), 0);
        yes("all of all", x.bridge(100, 100, 600));
        due("always", x.lateIf(0, 599, 1), 1);
        due("always", x.lateIf(0, 599, 0), 1);
        due("not by more", x.lateIf(0, 600, 0), 0);
        yes("3 of 4", x.bridge(3, 4, 10));
        due("above", x.lateIf(0, 9, 0), 3);
        due("below", x.lateIf(0, 9, 1), 4);
        yes("0 of 1", x.bridge(0, 1, 0));
        due("above", x.lateIf(0, 9, 0), 0);
    }

    private static void crossing() {
        promise = "24 crosses";
        LateMinutes x = new LateMinutes();
        no("it is so", x.crosses(7, false));
        no("p 8", x.crosses(8, true));
        no("p -1", x.crosses(-1, true));
        yes("crosses", x.crosses(7, true));
        no("it is so", x.crosses(7, true));
        x.bridge(1, 1, 5);
        due("takes more", x.lateIf(7, 4, 0), 1);
        due("another one not", x.lateIf(6, 4, 0), 0);
        yes("no more", x.crosses(7, false));
        due("no more", x.lateIf(7, 4, 0), 0);
    }

    private static void lateFractions() {
        promise = "25 lateIf";
        LateMinutes x = new LateMinutes();
        due("p -1", x.lateIf(-1, 0, 0), -1);
        due("p 8", x.lateIf(8, 0, 0), -1);
        due("ahead -1", x.lateIf(0, -1, 0), -1);
        due("ahead 601", x.lateIf(0, 601, 0), -1);
        due("what 2", x.lateIf(0, 0, 2), -1);
        due("what -1", x.lateIf(0, 0, -1), -1);
        x.end(0, 10, 4);
        x.end(0, 20, 2);
        due("as many is not late", x.lateIf(0, 20, 0), 0);
        due("0 of 1", x.lateIf(0, 20, 1), 1);
        due("without a common divisor", x.lateIf(0, 19, 0), 1);
        due("without a common divisor", x.lateIf(0, 19, 1), 3);
        due("1 of 1", x.lateIf(0, 9, 1), 1);
        x.bridge(1, 10, 15);
        due("he does not cross", x.lateIf(0, 20, 0), 0);
        x.crosses(0, true);
        due("6 of 60", x.lateIf(0, 20, 0), 1);
        due("6 of 60", x.lateIf(0, 20, 1), 10);
        due("24 of 60", x.lateIf(0, 19, 0), 2);
        due("24 of 60", x.lateIf(0, 19, 1), 5);
        due("600", x.lateIf(0, 600, 1), 1);
    }

    private static void hangTogether() {
        promise = "26 hang";
        LateMinutes x = new LateMinutes();
        due("nobody", x.hang(0, 0, 0), -1);
        due("256", x.hang(256, 0, 0), -1);
        due("-1", x.hang(-1, 0, 0), -1);
        due("ahead -1", x.hang(1, -1, 0), -1);
        due("ahead 601", x.hang(1, 601, 0), -1);
        due("k -1", x.hang(1, 0, -1), -1);
        due("k 2 of 1", x.hang(1, 0, 2), -1);
        due("nobody late", x.hang(255, 0, 0), 1);
        due("all late", x.hang(255, 0, 8), 0);
        x.end(0, 10, 3);
        x.end(0, 20, 1);
        x.end(1, 15, 2);
        x.bridge(2, 5, 7);
        x.crosses(0, true);
        x.crosses(1, true);
        // Open (3): 0 late by 1 of 4, 1 late by 2 of 2. Shut (2): both are late.
        due("none of two", x.hang(3, 14, 0), 0);
        due("one of two", x.hang(3, 14, 1), 3 * 3 * 2);
        due("two of two", x.hang(3, 14, 2), 3 * 1 * 2 + 2 * 4 * 2);
        due("one of three", x.hang(7, 14, 1), 18);
        for (int p = 2; p < 8; p++) for (int i = 0; i < 5; i++) x.end(p, 100, 20);
        for (int i = 2; i < 5; i++) x.end(0, 100, 20);
        for (int i = 1; i < 5; i++) x.end(1, 100, 20);
        x.bridge(50, 100, 0);
        due("large", x.hang(255, 90, 8), 100L * 60 * 80 * 1000000000000L);
    }

    private static void costOfOne() {
        promise = "27 cost";
        LateMinutes x = new LateMinutes();
        due("no meeting", x.cost(0, 0, 0, 0), -1);
        x.meeting(0, 70, 7);
        due("m 1", x.cost(1, 0, 0, 0), -1);
        due("not of it", x.cost(0, 3, 0, 0), -1);
        due("p -1", x.cost(0, -1, 0, 0), -1);
        due("ahead -61", x.cost(0, 0, -61, 0), -1);
        due("ahead 601", x.cost(0, 0, 601, 0), -1);
        due("price -1", x.cost(0, 0, 0, -1), -1);
        due("price 100", x.cost(0, 0, 0, 100), -1);
        due("behind", x.cost(0, 0, -60, 99), 60 * 2 * 99);
        x.worth(0, 0, 5);
        x.worth(0, 1, 7);
        x.worth(0, 23, 50);
        due("hour 1", x.cost(0, 0, 10, 9), 70);
        due("hour 0", x.cost(0, 0, 11, 9), 55);
        due("ahead of the day: hour 0", x.cost(0, 0, 600, 9), 3000);
        x.end(0, 10, 2);
        x.end(0, 40, 3);
        due("ends", x.cost(0, 0, 20, 1), 2 * 10 * 7 + 3 * 20 * 2);
        x.bridge(1, 4, 30);
        due("through the bridge", x.cost(0, 0, 20, 1), 4 * (2 * 10 * 7 + 3 * 20 * 2));
        x.crosses(0, true);
        due("crossing", x.cost(0, 0, 20, 1), 3 * 260 + 2 * 20 * 2 + 3 * 50 * 2);
        x.meeting(0, 1439, 17);
        due("one other", x.cost(1, 4, 9, 1), 9 * 4);
    }

    private static void outOfOne() {
        promise = "28 out";
        LateMinutes x = new LateMinutes();
        due("no meeting", x.out(0, 0, 0), -1);
        x.meeting(0, 700, 3);
        due("not of it", x.out(0, 2, 0), -1);
        due("price -1", x.out(0, 0, -1), -1);
        due("price 100", x.out(0, 0, 100), -1);
        due("at once", x.out(0, 0, 9), 0);
        x.end(0, 300, 1);
        due("of like ones the least", x.out(0, 0, 0), 0);
        due("300", x.out(0, 0, 1), 300);
        x.bridge(1, 1, 300);
        x.crosses(0, true);
        due("600", x.out(0, 0, 1), 600);
        x.bridge(1, 1, 600);
        due("600 at most", x.out(0, 0, 1), 600);
        LateMinutes y = new LateMinutes();
        y.meeting(0, 700, 3);
        y.end(0, 10, 1);
        y.end(0, 30, 1);
        due("like from 10 to 30", y.out(0, 0, 1), 10);
        due("dearer", y.out(0, 0, 2), 30);
    }

    private static void costOfTwo() {
        promise = "29 two";
        LateMinutes x = new LateMinutes();
        due("no meetings", x.two(0, 1, 0, 0, 0, 0), -1);
        x.meeting(1, 600, 3);
        x.meeting(1, 700, 7);
        x.meeting(2, 800, 3);
        x.meeting(1, 600, 3);
        due("in a row", x.two(0, 1, 0, 100, 0, 1), 0);
        due("turned", x.two(1, 0, 0, 100, 0, 1), -1);
        due("another day", x.two(0, 2, 0, 100, 0, 1), -1);
        due("the same minute", x.two(0, 3, 0, 100, 0, 1), -1);
        due("the same one", x.two(0, 0, 0, 100, 0, 1), -1);
        due("not of both", x.two(0, 1, 2, 100, 0, 1), -1);
        due("p 8", x.two(0, 1, 8, 100, 0, 1), -1);
        due("stays -1", x.two(0, 1, 0, -1, 0, 1), -1);
        due("stays 601", x.two(0, 1, 0, 601, 0, 1), -1);
        due("ahead -61", x.two(0, 1, 0, 0, -61, 1), -1);
        due("ahead 601", x.two(0, 1, 0, 0, 601, 1), -1);
        due("price -1", x.two(0, 1, 0, 0, 0, -1), -1);
        due("price 100", x.two(0, 1, 0, 0, 0, 100), -1);
        due("from its minute", x.two(0, 1, 0, 60, 30, 1), 30 + 40);
        due("from his coming", x.two(0, 1, 0, 60, -30, 1), 30 + 10);
        due("too long", x.two(0, 1, 0, 600, -60, 99), 60 * 99 + 560L * 2 * 99);
        x.end(0, 10, 2);
        x.end(0, 50, 1);
        x.bridge(1, 3, 5);
        x.worth(0, 11, 4);
        due("does not cross", x.two(0, 1, 0, 70, 10, 1), 3 * twoByHand(0));
        x.crosses(0, true);
        due("crosses", x.two(0, 1, 0, 70, 10, 1), 2 * twoByHand(0) + twoByHand(5));
    }

    /** By ends 10 (weight 2) and 50 (1), 10 ahead, stay 70; worth 1 at 9 and 10, 4 at 11. */
    private static long twoByHand(int more) {
        if (more == 0) {
            // At 600: 670 and 10: 680 (20 ahead, hour 11), 670 and 50: 720 (20 behind two).
            // At 640: 710 and 10: 720, 710 and 50: 760.
            return 2 * (2 * (0 + 80) + (0 + 40)) + (2 * (40 + 40) + (40 + 120));
        }
        // At 605: 675 and 15: 690 (10 ahead), 675 and 55: 730; at 645: 715 and 15: 730, 715 and 55: 770.
        return 2 * (2 * (5 + 40) + (5 + 60)) + (2 * (45 + 60) + (45 + 140));
    }

    private static void outOfTwo() {
        promise = "30 outTwo";
        LateMinutes x = new LateMinutes();
        due("no meetings", x.outTwo(0, 1, 0, 0, 0), -1);
        x.meeting(1, 600, 3);
        x.meeting(1, 700, 7);
        due("turned", x.outTwo(1, 0, 0, 0, 0), -1);
        due("not of both", x.outTwo(0, 1, 2, 0, 0), -1);
        due("stays 601", x.outTwo(0, 1, 0, 601, 0), -1);
        due("stays -1", x.outTwo(0, 1, 0, -1, 0), -1);
        due("price 100", x.outTwo(0, 1, 0, 0, 100), -1);
        due("at once", x.outTwo(0, 1, 0, 100, 5), 0);
        x.end(0, 40, 1);
        due("in time for the first", x.outTwo(0, 1, 0, 60, 9), 40);
        due("late for the second at any rate", x.outTwo(0, 1, 0, 200, 9), 40);
        due("free of price: late for both", x.outTwo(0, 1, 0, 0, 0), 0);
        LateMinutes y = new LateMinutes();
        y.meeting(0, 700, 3);
        y.meeting(0, 1439, 3);
        y.end(0, 300, 1);
        y.crosses(0, true);
        y.bridge(1, 1, 300);
        due("600", y.outTwo(0, 1, 0, 0, 99), 600);
        y.bridge(1, 1, 301);
        due("600 at most", y.outTwo(0, 1, 0, 0, 99), 600);
        for (int h = 0; h < 24; h++) y.worth(0, h, 0);
        due("of like ones the least", y.outTwo(0, 1, 0, 0, 0), 0);
        x.worth(0, 11, 99);
        // By 10 he is 30 behind for the first one and just in time for the second; any earlier he waits at 11.
        due("waiting at 11 is dear", x.outTwo(0, 1, 0, 30, 1), 10);
    }

    private static void allAtRest() {
        promise = "31 rest";
        LateMinutes x = new LateMinutes();
        due("no meeting", x.rest(0, 0, -1), -3);
        x.meeting(0, 600, 15);
        x.meeting(0, 600, 31);
        x.meeting(0, 630, 3);
        due("more than 4", x.rest(1, 0, -1), -3);
        due("not of it", x.rest(0, 0, 4), -3);
        due("what 8", x.rest(0, 0, 8), -3);
        due("what -2", x.rest(0, 0, -2), -3);
        due("price -1", x.rest(0, -1, -1), -3);
        due("price 100", x.rest(0, 100, -1), -3);
        due("nobody changes", x.rest(0, 9, -1), 1);
        due("0 ahead", x.rest(0, 9, 3), 0);
        x.end(1, 60, 1);
        due("he sets out 60 ahead", x.rest(2, 9, 1), 60);
        due("0 ahead", x.rest(2, 9, 0), 0);
        due("two turns", x.rest(2, 9, -1), 2);
        due("free of price he stays", x.rest(2, 0, 1), 0);
        x.end(0, 5, 1);
        x.worth(0, 10, 99);
        due("5 late, but waiting is dear", x.rest(2, 9, 0), 0);
        due("so 1 comes at the same time", x.rest(2, 9, 1), 55);
        x.bridge(1, 1, 62);
        x.crosses(1, true);
        due("120 at most", x.rest(2, 99, 1), 120);
        LateMinutes y = new LateMinutes();
        y.meeting(0, 600, 3);
        y.end(1, 200, 1);
        y.worth(0, 10, 50);
        due("1 comes 80 behind; 0 sets out least", y.rest(0, 99, 1), 120);
        due("0 does not wait earlier", y.rest(0, 99, 0), 0);
        due("turns", y.rest(0, 99, -1), 2);
        int[][] restless = {{0, 100, 2}, {0, 10, 2}, {1, 105, 5}, {1, 100, 4}, {2, 75, 5}, {2, 60, 3}, {2, 40, 3}};
        restsAsPlain("never", restless, new int[] {1, 7, 2}, 7, 51, 2);
        int[][] slow = {{0, 30, 5}, {0, 50, 1}, {0, 60, 5}, {1, 110, 3}, {1, 55, 1}, {1, 105, 2}, {2, 95, 1}, {2, 105, 5}};
        restsAsPlain("by the last turn", slow, new int[] {1, 4, 7}, 0, 58, 4);
    }

    private static void restsAsPlain(String call, int[][] ends, int[] worths, int crossing, int more, int price) {
        LateMinutes x = new LateMinutes();
        Plain plain = new Plain();
        x.meeting(0, 600, 7);
        plain.meeting(0, 600, 7);
        for (int[] e : ends) {
            x.end(e[0], e[1], e[2]);
            plain.end(e[0], e[1], e[2]);
        }
        for (int p = 0; p < 3; p++) {
            x.worth(p, 10, worths[p]);
            plain.worth(p, 10, worths[p]);
            if ((crossing >> p & 1) == 1) x.crosses(p, true);
            if ((crossing >> p & 1) == 1) plain.crosses(p, true);
        }
        x.bridge(1, 4, more);
        plain.bridge(1, 4, more);
        due(call, x.rest(0, price, -1), call.equals("never") ? -2 : 30);
        due("person 8", x.rest(0, price, 3), -3);
        for (int p = -1; p < 4; p++) due(call + " " + p, x.rest(0, price, p), plain.rest(0, price, p));
    }

    private static void lostMinutes() {
        promise = "32 lost";
        LateMinutes x = new LateMinutes();
        due("none", x.lost(), 0);
        met(x, 0, 600, 7, 590, 610, 625);
        met(x, 0, 700, 3, 690, 699);
        met(x, 1, 600, 3, 600, 700);
        due("not settled", x.lost(), 0);
        x.settle(0);
        due("25 and 15", x.lost(), 40);
        x.settle(1);
        due("in time", x.lost(), 40);
        x.settle(2);
        due("ahead", x.lost(), 40);
        x.now(1);
        x.settle(2);
        due("100 more", x.lost(), 140);
    }

    private static void seedIsSet() {
        promise = "33 seed";
        LateMinutes x = new LateMinutes();
        no("-1", x.seed(-1));
        no("65536", x.seed(65536));
        due("X", x.count(5), 1);
        yes("0", x.seed(0));
        due("X", x.count(5), 0);
        yes("65535", x.seed(65535));
        due("X", x.count(5), 65535);
        x.meeting(0, 600, 3);
        x.draw(0, 0);
        int first = x.count(5);
        x.seed(65535);
        x.draw(0, 0);
        due("again", x.count(5), first);
    }

    private static void comingsAreDrawn() {
        promise = "34 draw";
        LateMinutes x = new LateMinutes();
        due("no meeting", x.draw(0, 0), -1);
        x.meeting(0, 600, 5);
        due("m -1", x.draw(-1, 0), -1);
        due("m 1", x.draw(1, 0), -1);
        due("ahead -1", x.draw(0, -1), -1);
        due("ahead 601", x.draw(0, 601), -1);
        due("X stays", x.count(5), 1);
        // X: 39022, 55895, 8652, 33701, ..
        x.end(0, 10, 1);
        x.end(0, 20, 5);
        x.end(0, 30, 1);
        x.end(2, 40, 1);
        x.bridge(3, 100, 7);
        x.crosses(2, true);
        int a = (25173 + 13849) % 65536;
        int b = (25173 * a + 13849) % 65536;
        int c = (int) ((25173L * b + 13849) % 65536);
        due("shut", x.draw(0, 5), a % 100 < 3 ? 1 : 0);
        due("X", x.count(5), c);
        int of0 = b % 7 < 1 ? 10 : b % 7 < 6 ? 20 : 30;
        due("the later one", x.begins(0), Math.max(600 - 5 + of0, 635 + (a % 100 < 3 ? 7 : 0)));
        int shut = 0;
        int open = 0;
        for (int i = 0; i < 100; i++) {
            int before = x.count(5);
            int is = x.draw(0, 5);
            due("by X", is, (int) ((25173L * before + 13849) % 65536) % 100 < 3 ? 1 : 0);
            due("2 by the bridge", x.begins(0), is == 1 ? 642 : 635);
            if (is == 1) shut++;
            else open++;
        }
        due("both are drawn", shut > 0 && open > 50 ? 1 : 0, 1);
        x.meeting(0, 5, 3);
        x.meeting(0, 1439, 3);
        x.draw(1, 600);
        due("held to 0", x.keeps(1, 0, 1), 0);
        due("held to 0", x.begins(1), 5);
        x.draw(2, 0);
        due("held to 1439", x.begins(2), 1439);
        x.settle(0);
        due("settled", x.draw(0, 0), -1);
    }

    private static void notesAreChecked() {
        promise = "35 check";
        LateMinutes x = new LateMinutes();
        due("nothing", x.check(0), -1);
        due("-1", x.check(-1), -2);
        due("has not so many", x.check(1), -2);
        note(x, 3, 1, 10);
        note(x, 0, 2, 300);
        note(x, 1, 2, 40);
        due("some are lacking", x.check(0), 0);
        x.feed(0, 3, 1, 10, 1);
        x.feed(0, 2, 300, 2, 1);
        x.feed(2, 40, 9, 9, 9);
        due("has not so many", x.check(4), -2);
        due("max", x.check(Integer.MAX_VALUE), -2);
        due("1 << 28", x.check(1 << 28), -2);
        due("the tape stays", x.count(4), 60);
        due("right", x.check(3), -1);
        due("empty then", x.count(4), 0);
        x.feed(0, 3, 1, 10, 1);
        x.feed(0, 2, 300, 2, 1);
        due("one is lacking", x.check(2), 8);
        due("empty then", x.count(4), 0);
        for (int wrongAt = 0; wrongAt < 4; wrongAt++) {
            x.feed(0, 3, 1, 10, wrongAt == 0 ? 2 : 1);
            x.feed(wrongAt == 1 ? -1 : 0, wrongAt == 2 ? 3 : 2, wrongAt == 3 ? 301 : 300, 2, 1);
            x.feed(2, 40, 0, 0, 0);
            due("wrong at", x.check(3), 4 + wrongAt);
        }
        x.hand(1, 0);
        x.feed(0, 3, 1, 10, 2);
        x.feed(1, 2, 40, 9, 9);
        due("live ones only", x.check(2), -1);
        x.feed(0, 3, 1, 10, 2);
        x.feed(1, 2, 40, 9, 9);
        x.feed(9, 9, 9, 9, 9);
        due("one too many", x.check(3), 8);
    }

    private static void counts() {
        promise = "36 count";
        LateMinutes x = new LateMinutes();
        x.now(4);
        law(x, "ow(w>0);p1(1=1)");
        met(x, 4, 600, 3, 600, 607);
        met(x, 4, 0, 3, 600, 607);
        x.settle(0);
        x.seed(77);
        x.end(0, 1, 1);
        x.end(7, 1, 1);
        x.end(7, 2, 1);
        x.feed(1, 2, 3, 4, 5);
        int[] want = {4, 2, 1, 2, 20, 77, 1};
        for (int what = 0; what < 7; what++) due("what " + what, x.count(what), want[what]);
        int[] none = {-1, 7, 8, 9, 18, 19, 22, 43, 44, 100, Integer.MIN_VALUE, Integer.MAX_VALUE};
        for (int what : none) due("what " + what, x.count(what), -1);
        due("ends of 0", x.count(10), 1);
        due("ends of 1", x.count(11), 0);
        due("ends of 7", x.count(17), 2);
        due("minute of 0", x.count(20), 600);
        due("minute of 1", x.count(21), 0);
    }
}
