/** States of an object, each built anew by the same calls. */
final class Town {
    interface Build {
        LateMinutes make();
    }

    private Town() {
    }

    /** Something of all: settled and open meetings, notes with and without minutes, ways, a tape of 40 bytes. */
    static LateMinutes busy() {
        LateMinutes x = new LateMinutes();
        Asked.law(x, "ow(w>0);p50(k=1);l5(x<y)");
        x.worth(1, 10, 7);
        x.worth(0, 9, 3);
        x.worth(7, 23, 99);
        x.now(2);
        Asked.met(x, 2, 540, 7, 540, 535, 570);
        Asked.met(x, 2, 600, 25, 625, 600, 590);
        Asked.met(x, 2, 660, 40, 680, 670);
        Asked.met(x, 2, 720, 3, 730);
        Asked.met(x, 9, 700, 192, 700, 720);
        x.meeting(2, 800, 31);
        x.meeting(2, 840, 11);
        // Notes: 0 and 1 of 30 by 2; then 13 by 0 and 12 by 2, to 3 and to 4, till day 7.
        x.settle(0);
        x.settle(1);
        x.hand(0, 4);
        x.cut(1, 10);
        x.take(2, 13, 8);
        x.hand(3, 2);
        x.take(1, 15, 8);
        waysOfSome(x);
        x.seed(777);
        Asked.feed(x, "ow(w>0);l5(1=1)");
        x.feed(0x61616161, 1, 2, 3, 4);
        return x;
    }

    private static void waysOfSome(LateMinutes x) {
        x.end(0, 10, 3);
        x.end(0, 40, 1);
        for (int i = 0; i < 5; i++) x.end(1, 20 * i, 1 + i);
        x.end(7, 300, 20);
        x.bridge(1, 4, 30);
        x.crosses(0, true);
    }

    /** The busy one on the day from which on four of its notes are lapsed. */
    static LateMinutes later() {
        LateMinutes x = busy();
        x.now(7);
        return x;
    }

    /** Each of 0, 1 and 2 owes the others 100; in the hours 5 and 6 is taken: 60 and 59 of 0 by 1. */
    static LateMinutes taken() {
        LateMinutes x = new LateMinutes();
        Asked.law(x, "o100(1=1)");
        Asked.met(x, 0, 600, 7, 600, 600, 600);
        x.settle(0);
        x.cut(0, 1);
        x.take(6, 1, 5);
        x.take(0, 59, 5);
        x.cut(5, 40);
        x.take(7, 40, 6);
        x.take(5, 19, 6);
        x.take(1, 59, 6);
        return x;
    }

    /** 24 meetings, 60 notes, 14 clauses, five ends each, 400 bytes, the last day. */
    static LateMinutes full() {
        LateMinutes x = new LateMinutes();
        StringBuilder law = new StringBuilder("o2(x<y);o1(1=1)");
        for (int i = 2; i < 14; i++) law.append(";p").append(i).append("(1=0)");
        Asked.law(x, law.toString());
        x.now(99);
        for (int m = 0; m < 24; m++) {
            x.meeting(m < 20 ? 99 : 98, 60 * m, m == 0 ? 255 : m < 4 ? 3 : 7);
            x.draw(m, 10);
        }
        for (int m = 0; m < 3; m++) x.settle(m);
        for (int p = 0; p < 8; p++) for (int i = 0; i < 5; i++) x.end(p, 10 * i + p, 1 + i);
        x.bridge(100, 100, 600);
        for (int p = 0; p < 8; p++) x.crosses(p, true);
        for (int i = 0; i < 20; i++) Asked.feed(x, "ow(w>0);l5(1=1)aaaaa");
        return x;
    }
}
