/** Promises 14 to 21: BEHIND, BREAKS, DOOR, STICK, SHARE, RELIEF, PAIR. */
public final class ComesTest {
    private static final Due due = new Due("ComesTest");

    public static void main(String[] args) {
        behind();
        walked();
        breaks();
        door();
        best();
        bestOfSeveral();
        share();
        relief();
        pair();
        due.end();
    }

    private static void behind() {
        HeartPins x = Due.laid("p60;p5;t0,1,5;t0,2,2;t1,3,9;t1,0,9;h8,20,6;");
        due.is("behind(-1, 0)", x.behind(-1, 0), HeartPins.BAD);
        due.is("behind(61, 0)", x.behind(61, 0), HeartPins.BAD);
        due.is("behind(0, 2)", x.behind(0, 2), HeartPins.BAD);
        due.is("behind(0, -1)", x.behind(0, -1), HeartPins.BAD);
        int[] zero = {7, 7, 7, 8, 9};
        int[] one = {18, 19, 18, 19, 18};
        for (int n = 0; n < zero.length; n++) {
            due.is("behind(" + n + ", 0)", x.behind(n, 0), zero[n]);
            due.is("behind(" + n + ", 1)", x.behind(n, 1), one[n]);
        }
        due.is("behind(60, 0)", x.behind(60, 0), 40);
        x.stick(3);
        due.is("behind(5, 1)", x.behind(5, 1), 10);
        due.is("behind(6, 1)", x.behind(6, 1), 9);
        due.is("nothing is done: count(2)", x.count(2), 0);
        due.is("nothing is done: pin(0, 2)", x.pin(0, 2), 5);
        due.is("nothing is done: count(10)", x.count(10), 1);
        x.pass(1);
        due.is("an odd one from an uneven day", x.behind(1, 1), 9);
    }

    private static void walked() {
        HeartPins x = Due.laid("p60;t0,0,9;h8,3,5;");
        due.is("walked(-1)", x.walked(-1), HeartPins.BAD);
        due.is("walked(61)", x.walked(61), HeartPins.BAD);
        due.is("walked(9), nothing in it", x.walked(9), 0);
        x.stick(0);
        int[] want = {0, 1, 2, 3, 3, 0, 0};
        for (int n = 0; n < want.length; n++) {
            due.is("walked(" + n + ")", x.walked(n), want[n]);
        }
        due.is("walked(60)", x.walked(60), 0);
        x.pass(2);
        due.is("walked(0)", x.walked(0), 2);
        due.is("walked(2)", x.walked(2), 3);
        due.is("walked(3)", x.walked(3), 0);
        x.feel(0, 0);
        due.is("back: walked(1)", x.walked(1), 1);
        due.is("back: walked(2)", x.walked(2), 0);
    }

    private static void breaks() {
        HeartPins x = Due.laid("p60;p60;p5;p9;t0,1,20;t0,1,20;t1,1,20;t2,0,6;t3,3,9;h60,20,30;");
        due.is("breaks(0)", x.breaks(0), 11);
        due.is("breaks(1)", x.breaks(1), HeartPins.NONE);
        due.is("breaks(2): now", x.breaks(2), 0);
        due.is("breaks(3): as much is not more", x.breaks(3), 1);
        due.is("breaks(4)", x.breaks(4), HeartPins.BAD);
        due.is("breaks(-1)", x.breaks(-1), HeartPins.BAD);
        due.is("nothing is done", x.count(2), 0);
        x = Due.laid("p60;p0;t0,1,1;t0,1,1;t0,0,1;");
        due.is("30 + 30 + 1: behind 29 + 1", x.breaks(0), 29);
        due.is("nothing borne", x.breaks(1), HeartPins.NONE);
        x = Due.laid("p60;t0,1,1;t0,0,20;t0,0,1;");
        due.is("40 + 20 + 1 is first more than 60 behind 39", x.breaks(0), 39);
        x = Due.laid("p60;t0,1,1;t0,0,20;");
        due.is("40 + 20 is not more than 60", x.breaks(0), HeartPins.NONE);
    }

    private static void door() {
        HeartPins x = Due.laid("p60;t0,1,1;t0,0,20;h50,20,30;");
        due.is("door(), nothing in it", x.door(), HeartPins.NONE);
        x = Due.laid("p60;t0,1,1;h10,20,30;");
        x.stick(0);
        // 1 larger a day to 11, full from day 10 on: 20 days of walking end on day 30, when it is shaken out.
        due.is("shaken out on the very day", x.door(), HeartPins.NONE);
        x = Due.laid("p60;t0,1,2;h10,20,30;");
        x.stick(0);
        due.is("a day ahead of it", x.door(), 29);
        x.pass(20);
        due.is("from day 20", x.door(), 9);
        x.pass(9);
        due.is("now", x.door(), 0);
        x.pass(1);
        due.is("shaken out", x.door(), HeartPins.NONE);
        due.is("nothing is done", x.count(2), 30);
    }

    private static void best() {
        HeartPins x = Due.laid("p5;p5;t0,0,5;t0,0,3;t1,1,2;t1,0,3;h8,3,30;");
        due.is("best(-1, 0)", x.best(-1, 0), HeartPins.BAD);
        due.is("best(21, 0)", x.best(21, 0), HeartPins.BAD);
        due.is("best(0, -1)", x.best(0, -1), HeartPins.BAD);
        due.is("best(0, 2)", x.best(0, 2), HeartPins.BAD);
        due.is("best(0, 0): the first breaks", x.best(0, 0), 1);
        due.is("best(0, 1)", x.best(0, 1), 1);
        due.is("best(1, 0): the other breaks then", x.best(1, 0), 2);
        due.is("best(1, 1): of several the lowest", x.best(1, 1), 0b0101);
        // 5 and the sharp one of 2 are more than 8 behind 2 days and at the door 3 days later.
        due.is("best(3, 1): also the sharp one", x.best(3, 1), 0b0101);
        due.is("best(4, 1)", x.best(4, 1), 0b0101);
        // 0b0110 in it: 3 and 2, 1 larger a day: 9 behind 4, at the door behind 7.
        due.is("best(5, 1)", x.best(5, 1), 0b0110);
        due.is("best(6, 1)", x.best(6, 1), 0b0110);
        due.is("best(7, 1)", x.best(7, 1), HeartPins.NONE);
        due.is("best(7, 0)", x.best(7, 0), HeartPins.NONE);
        due.is("nothing is done", x.count(3), 4);
        x = Due.laid("p5;t0,0,5;");
        due.is("nobody breaks: best(20, 0)", x.best(20, 0), 0);
        due.is("nobody breaks: best(20, 1)", x.best(20, 1), 0);
        x = Due.laid("p60;t0,0,5;h1,1,30;");
        x.stick(0);
        due.is("not yet at the door", x.best(0, 0), 0);
        due.is("at the door behind 1", x.best(1, 0), HeartPins.NONE);
        x.pass(1);
        due.is("at the door now", x.best(0, 0), HeartPins.NONE);
        due.is("at the door now", x.best(0, 1), HeartPins.NONE);
        due.is("at the door now: BAD ahead of NONE", x.best(0, 2), HeartPins.BAD);
        x = Due.laid("p60;");
        due.is("no pins", x.best(20, 1), 0);
    }

    private static void bestOfSeveral() {
        HeartPins x = Due.laid("p5;t0,0,1;t0,0,1;t0,0,2;t0,0,2;t0,0,1;h60,20,30;");
        due.is("one of 2 is fewer than two of 1", x.best(3, 1), 0b00100);
        due.is("one", x.best(3, 0), 1);
        x = Due.laid("p0;t0,0,1;t0,0,1;h60,20,30;");
        x.stick(0);
        due.is("one in the heart is none to stick", x.best(0, 1), 0b10);
        due.is("only one", x.best(0, 0), 1);
        x = Due.laid("p4;t0,0,1;t0,0,1;t0,0,1;t0,0,3;h60,20,30;");
        due.is("by fewest, not by the lowest bits", x.best(0, 1), 0b1000);
        x = Due.laid("p0;t0,0,1;t0,0,1;t0,0,1;t0,0,1;t0,0,1;t0,0,1;t0,0,1;t0,0,1;h60,20,30;");
        due.is("all eight", x.best(20, 0), 8);
        due.is("all eight", x.best(20, 1), 255);
        x.stick(3);
        due.is("all seven", x.best(20, 0), 7);
        due.is("all seven", x.best(20, 1), 247);
        x = Due.laid("p60;t0,1,20;t0,1,20;t0,1,17;h60,20,1;");
        due.is("what is shaken out is not borne", x.best(3, 0), 1);
        due.is("the lowest", x.best(3, 1), 0b001);
        due.is("40 and 37 are more than 60", x.best(20, 0), 2);
        due.is("the lowest two", x.best(20, 1), 0b011);
    }

    private static void share() {
        HeartPins x = Due.laid("p1;p1;t0,0,5;t0,0,4;t0,0,3;t1,0,2;h60,20,1;");
        due.is("share(-2)", x.share(-2), HeartPins.BAD);
        due.is("share(4)", x.share(4), HeartPins.BAD);
        due.is("share(-1)", x.share(-1), 7);
        int[] want = {0, 1, 1, 0};
        for (int t = 0; t < 4; t++) {
            due.is("share(" + t + ")", x.share(t), want[t]);
        }
        x.stick(0);
        due.is("one in the heart: share(0)", x.share(0), HeartPins.NONE);
        due.is("one in the heart: share(-1)", x.share(-1), 5);
        due.is("one in the heart: share(1)", x.share(1), 0);
        due.is("one in the heart: share(2)", x.share(2), 1);
        due.is("one in the heart: share(3)", x.share(3), 1);
        for (int t = 1; t < 4; t++) {
            x.stick(t);
        }
        due.is("nothing borne: share(-1)", x.share(-1), 0);
        due.is("nothing borne: share(1)", x.share(1), HeartPins.NONE);
        x = Due.laid("p9;");
        due.is("no pins: share(-1)", x.share(-1), 0);
        due.is("no pins: share(0)", x.share(0), HeartPins.BAD);
        x = Due.laid("p9;p9;p9;t2,0,1;t2,0,9;t2,0,1;t2,0,1;");
        int[] first = {0, 1, 0, 0};
        due.is("the first way bears the small ones together", x.share(-1), 9);
        for (int t = 0; t < 4; t++) {
            due.is("the first way: share(" + t + ")", x.share(t), first[t]);
        }
        x = Due.laid("p9;p9;p9;p9;p9;t0,0,1;t0,0,1;t0,0,1;t0,0,1;t0,0,1;t0,0,1;t0,0,1;t0,0,1;");
        int[] eight = {0, 0, 1, 1, 2, 2, 3, 3};
        due.is("eight of 1 by five: share(-1)", x.share(-1), 2);
        for (int t = 0; t < 8; t++) {
            due.is("eight of 1 by five: share(" + t + ")", x.share(t), eight[t]);
        }
        due.is("nothing is done", x.pin(2, 4), 0);
        x = Due.laid("p9;t0,1,20;t0,1,20;t0,1,20;t0,1,20;t0,1,20;t0,1,20;t0,1,20;t0,1,20;");
        x.pass(20);
        due.is("the greatest load there is", x.share(-1), 320);
        due.is("the greatest load there is: share(7)", x.share(7), 0);
    }

    private static void relief() {
        HeartPins x = Due.laid("p5;p3;t0,0,3;t0,0,4;t1,0,2;t1,0,4;t0,0,4;h60,20,1;");
        // 11 by 5 breaks without any one; 6 by 3 breaks not without the 4.
        due.is("relief(0)", x.relief(0), 3);
        due.is("relief(1)", x.relief(1), 1);
        due.is("relief(-1)", x.relief(-1), HeartPins.BAD);
        due.is("relief(2)", x.relief(2), HeartPins.BAD);
        x.stick(4);
        // 7 by 5: both do; the larger one of them and the other's 4 are as large: the lowest.
        due.is("of several the largest, then the lowest", x.relief(0), 1);
        due.is("one still breaks", x.relief(1), 1);
        x.stick(1);
        due.is("one in the heart is none", x.relief(0), 3);
        due.is("nobody breaks then", x.relief(1), 0);
        x.stick(3);
        due.is("nobody breaks: the largest", x.relief(0), 0);
        due.is("nobody breaks", x.relief(1), 0);
        x.stick(0);
        x.stick(2);
        due.is("nobody bears one", x.relief(0), HeartPins.NONE);
        due.is("nobody bears one", x.relief(1), HeartPins.NONE);
        due.is("BAD ahead of NONE", x.relief(2), HeartPins.BAD);
        x = Due.laid("p60;");
        due.is("no pins", x.relief(0), HeartPins.NONE);
        x = Due.laid("p0;p0;t0,0,5;t1,0,5;");
        due.is("the pin of number 0", x.relief(0), 0);
        due.is("the pin of number 0: the other breaks", x.relief(1), 1);
    }

    private static void pair() {
        HeartPins x = Due.laid("p60;t0,0,1;t0,2,1;t0,0,3;t0,0,2;t0,0,20;t0,0,20;h60,20,3;");
        due.is("pair(1)", x.pair(1), HeartPins.BAD);
        due.is("pair(81)", x.pair(81), HeartPins.BAD);
        due.is("pair(min)", x.pair(Integer.MIN_VALUE), HeartPins.BAD);
        due.is("pair(2)", x.pair(2), 1);
        due.is("pair(3)", x.pair(3), 3);
        due.is("pair(4)", x.pair(4), 2);
        due.is("pair(5)", x.pair(5), 23);
        due.is("pair(6)", x.pair(6), HeartPins.NONE);
        due.is("pair(40)", x.pair(40), 45);
        due.is("pair(80)", x.pair(80), HeartPins.NONE);
        x.stick(3);
        due.is("one in the heart is one of two", x.pair(5), 23);
        x.pass(1);
        due.is("one gone is none of two: pair(2)", x.pair(2), HeartPins.NONE);
        due.is("one gone is none of two: pair(3)", x.pair(3), 3);
        x.pass(2);
        due.is("one shaken out is none of two", x.pair(5), HeartPins.NONE);
        due.is("pair(4)", x.pair(4), 2);
        x = Due.laid("p60;t0,1,20;t0,1,20;");
        x.pass(24);
        due.is("pair(80)", x.pair(80), 1);
    }
}
