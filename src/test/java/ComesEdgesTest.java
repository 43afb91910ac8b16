/** The boundary cases of section 3 and promises 14 to 21: what comes, what is best; each sentence has a test. */
public final class ComesEdgesTest {
    private static final Due due = new Due("ComesEdgesTest");

    public static void main(String[] args) {
        behindNowAndBehindSixty();
        behindIsAsDaysGoBy();
        walkedNowAndBehindSixty();
        breaksNow();
        breaksFirst();
        breaksAtTheLatest();
        breaksNever();
        doorNow();
        doorFirst();
        doorAtTheLatest();
        doorNever();
        bestNowAlone();
        bestToTheLastDay();
        bestOnAnyDay();
        bestNotAtTheDoor();
        bestAtTheDoorNow();
        bestOfNoPins();
        bestOfThoseBorne();
        bestFewestThenLowest();
        bestNone();
        shareOfNone();
        shareOfOne();
        shareAmongAll();
        shareFirstOfSeveral();
        shareNotByTheWay();
        shareByWhomNone();
        reliefAsMuchIsNotMore();
        reliefLargestThenLowest();
        reliefFewest();
        reliefNone();
        pairLeastAndGreatest();
        pairFirst();
        pairOfTwo();
        pairNotGoneNotShakenOut();
        comesToFortyAtMost();
        comesToNothing();
        comesByTheNumberOfTheDay();
        due.end();
    }

    // "BEHIND n (0 to 60) DAYS": odd ones tell 60 from 59 and 61.
    private static void behindNowAndBehindSixty() {
        HeartPins x = Due.laid("p60;p60;t0,3,5;t1,1,2;t1,0,9;h60,20,30;");
        due.is("behind(0, 0) is now", x.behind(0, 0), 5);
        due.is("behind(0, 1) is now", x.behind(0, 1), 11);
        due.is("behind(1, 0)", x.behind(1, 0), 6);
        due.is("behind(1, 1)", x.behind(1, 1), 12);
        due.is("behind(59, 0)", x.behind(59, 0), 6);
        due.is("behind(60, 0)", x.behind(60, 0), 5);
        due.is("behind(60, 1)", x.behind(60, 1), 49);
        due.is("behind(61, 0)", x.behind(61, 0), HeartPins.BAD);
        due.is("behind(-1, 0)", x.behind(-1, 0), HeartPins.BAD);
        due.is("behind(0, -1)", x.behind(0, -1), HeartPins.BAD);
        due.is("behind(0, 2)", x.behind(0, 2), HeartPins.BAD);
        x.pass(1);
        due.is("from day 1: behind(59, 0)", x.behind(59, 0), 5);
        due.is("from day 1: behind(60, 0)", x.behind(60, 0), 6);
    }

    // "Nothing else being done": it is as when the days go by, and nothing is done by asking.
    private static void behindIsAsDaysGoBy() {
        int[] ways = {0, 1, 24, 25, 48, 60};
        for (int n : ways) {
            HeartPins x = Scenes.RICH.make().get();
            HeartPins y = Scenes.RICH.make().get();
            for (int left = n; left > 0; left -= 24) {
                y.pass(Math.min(24, left));
            }
            for (int p = 0; p < 4; p++) {
                due.is("behind(" + n + ", " + p + ")", x.behind(n, p), y.person(p, 1));
            }
            due.is("walked(" + n + ")", x.walked(n), y.heart(3));
        }
    }

    private static void walkedNowAndBehindSixty() {
        HeartPins x = Due.laid("p60;t0,0,9;h8,20,30;");
        x.stick(0);
        due.is("walked(0) is now", x.walked(0), 0);
        due.is("walked(1)", x.walked(1), 1);
        due.is("walked(19)", x.walked(19), 19);
        due.is("walked(20)", x.walked(20), 20);
        due.is("walked(29), D at most", x.walked(29), 20);
        due.is("walked(30), shaken out", x.walked(30), 0);
        due.is("walked(60)", x.walked(60), 0);
        due.is("walked(61)", x.walked(61), HeartPins.BAD);
        due.is("walked(-1)", x.walked(-1), HeartPins.BAD);
        x.pass(3);
        due.is("walked(0) from day 3", x.walked(0), 3);
        x.feel(0, 0);
        due.is("1 back", x.walked(1), 2);
        due.is("3 back", x.walked(3), 0);
        due.is("0 at least", x.walked(4), 0);
    }

    // "behind how many DAYS (0 to 60) its LOAD is first more than it can BEAR": 0, if it is now.
    private static void breaksNow() {
        due.is("11 by 10", Due.laid("p10;t0,0,11;").breaks(0), 0);
        due.is("11 by 10, less to come", Due.laid("p10;t0,2,11;").breaks(0), 0);
        due.is("1 by 0", Due.laid("p0;t0,0,1;").breaks(0), 0);
        due.is("as much is not more", Due.laid("p10;t0,0,10;").breaks(0), HeartPins.NONE);
        due.is("as much is not more, less to come", Due.laid("p10;t0,2,10;").breaks(0), HeartPins.NONE);
        due.is("as much now, more behind 1", Due.laid("p10;t0,1,10;").breaks(0), 1);
        due.is("as much now, more behind 1, less then", Due.laid("p10;t0,3,10;").breaks(0), 1);
    }

    private static void breaksFirst() {
        HeartPins x = Due.laid("p10;p9;t0,1,5;t1,3,9;");
        due.is("10 behind 5, 11 behind 6", x.breaks(0), 6);
        due.is("behind 1, though behind 2 no more", x.breaks(1), 1);
        due.is("no such person", x.breaks(2), HeartPins.BAD);
        due.is("no such person", x.breaks(-1), HeartPins.BAD);
        x.pass(1);
        due.is("from day 1", x.breaks(0), 5);
        due.is("now", x.breaks(1), 0);
        x.pass(1);
        due.is("from day 2", x.breaks(1), 1);
    }

    // The latest that can be: a sharp one of 1 is 40 behind 39 days.
    private static void breaksAtTheLatest() {
        due.is("38 and 20 and 1", Due.laid("p58;t0,1,1;t0,0,20;").breaks(0), 38);
        due.is("39 and 20", Due.laid("p59;t0,1,1;t0,0,20;").breaks(0), 39);
        due.is("40 and 20 by 60", Due.laid("p60;t0,1,1;t0,0,20;").breaks(0), HeartPins.NONE);
    }

    private static void breaksNever() {
        HeartPins x = Due.laid("p60;p0;t0,0,5;h60,20,30;");
        due.is("borne", x.breaks(0), HeartPins.NONE);
        due.is("nothing borne, by 0", x.breaks(1), HeartPins.NONE);
        x = Due.laid("p0;t0,0,5;h60,20,30;");
        x.stick(0);
        due.is("in the heart it is no load", x.breaks(0), HeartPins.NONE);
    }

    // "behind how many DAYS (0 to 60) the HEART is AT THE DOOR first": 0, if it is now.
    private static void doorNow() {
        HeartPins x = Due.laid("p60;t0,0,5;h4,2,30;");
        x.stick(0);
        due.is("behind 2", x.door(), 2);
        x.pass(1);
        due.is("behind 1", x.door(), 1);
        x.pass(1);
        due.is("now", x.door(), 0);
        x.feel(0, 0);
        due.is("now, empty", x.door(), 0);
        x.pass(1);
        due.is("no more", x.door(), HeartPins.NONE);
    }

    private static void doorFirst() {
        HeartPins x = Due.laid("p60;t0,1,5;h5,3,30;");
        x.stick(0);
        due.is("full from day 1 on", x.door(), 4);
        x = Due.laid("p60;t0,0,5;h4,1,30;");
        x.stick(0);
        due.is("D of 1", x.door(), 1);
        x = Due.laid("p60;t0,0,5;h4,5,30;");
        x.stick(0);
        x.pass(3);
        x.feel(0, 0);
        x.pass(1);
        x.stick(0);
        due.is("from 2 on", x.door(), 3);
    }

    // The latest that can be: the day ahead of the thirtieth.
    private static void doorAtTheLatest() {
        HeartPins x = Due.laid("p60;t0,1,2;h10,20,30;");
        x.stick(0);
        due.is("full from day 9 on", x.door(), 29);
        x = Due.laid("p60;t0,1,1;h10,20,30;");
        x.stick(0);
        due.is("full from day 10 on: shaken out instead", x.door(), HeartPins.NONE);
        x = Due.laid("p60;t0,0,5;h4,20,20;");
        x.stick(0);
        due.is("on the very day: shaken out instead", x.door(), HeartPins.NONE);
        x = Due.laid("p60;t0,0,5;h4,19,20;");
        x.stick(0);
        due.is("a day ahead of it", x.door(), 19);
    }

    private static void doorNever() {
        due.is("nothing in it, room 0", Due.laid("p60;t0,0,5;h0,1,30;").door(), HeartPins.NONE);
        HeartPins x = Due.laid("p60;t0,0,5;h5,1,30;");
        x.stick(0);
        due.is("as much as room", x.door(), HeartPins.NONE);
    }

    // "nobody BREAKS on any of DAYS 0 to n from now on (DAY 0 is now ..)"
    private static void bestNowAlone() {
        HeartPins x = Due.laid("p5;t0,1,5;h60,20,30;");
        due.is("as much is not more: best(0, 0)", x.best(0, 0), 0);
        due.is("as much is not more: best(0, 1)", x.best(0, 1), 0);
        due.is("more behind 1: best(1, 0)", x.best(1, 0), 1);
        due.is("more behind 1: best(1, 1)", x.best(1, 1), 1);
        x = Due.laid("p5;t0,2,6;h60,20,30;");
        due.is("more now: best(0, 0)", x.best(0, 0), 1);
        due.is("more now, not behind 1: best(20, 0)", x.best(20, 0), 1);
        due.is("best(-1, 0)", x.best(-1, 0), HeartPins.BAD);
    }

    private static void bestToTheLastDay() {
        HeartPins x = Due.laid("p39;t0,1,20;h60,20,30;");
        due.is("40 by 39 behind 20 days: best(19, 0)", x.best(19, 0), 0);
        due.is("40 by 39 behind 20 days: best(20, 0)", x.best(20, 0), 1);
        x = Due.laid("p39;t0,1,19;h60,20,30;");
        due.is("40 by 39 behind 21 days: best(20, 0)", x.best(20, 0), 0);
        due.is("best(21, 0)", x.best(21, 0), HeartPins.BAD);
        due.is("best(20, 2)", x.best(20, 2), HeartPins.BAD);
        due.is("best(20, -1)", x.best(20, -1), HeartPins.BAD);
    }

    // Also on one between the first and the last, and also of the last person.
    private static void bestOnAnyDay() {
        HeartPins x = Due.laid("p5;t0,3,5;h60,20,30;");
        due.is("best(0, 0)", x.best(0, 0), 0);
        due.is("more behind 1 and not behind 2: best(2, 0)", x.best(2, 0), 1);
        x = Due.laid("p60;p60;p60;p60;p2;t4,3,2;h60,20,30;");
        due.is("the last person behind 1: best(1, 1)", x.best(1, 1), 1);
        due.is("the last person now: best(0, 1)", x.best(0, 1), 0);
    }

    // "nor is the HEART AT THE DOOR on any"
    private static void bestNotAtTheDoor() {
        HeartPins x = Due.laid("p60;t0,0,5;h4,2,30;");
        x.stick(0);
        due.is("walked 0 of 2: best(1, 0)", x.best(1, 0), 0);
        due.is("at the door behind 2: best(2, 0)", x.best(2, 0), HeartPins.NONE);
        due.is("at the door behind 2: best(2, 1)", x.best(2, 1), HeartPins.NONE);
        x = Due.laid("p60;t0,0,5;h4,1,2;");
        x.stick(0);
        due.is("not now: best(0, 0)", x.best(0, 0), 0);
        due.is("at the door behind 1, shaken out behind 2: best(2, 0)", x.best(2, 0), HeartPins.NONE);
        x = Due.laid("p4;t0,0,5;t0,0,4;h4,1,30;");
        due.is("5 would walk to the door: best(0, 1)", x.best(0, 1), 0b01);
        due.is("4 would not, but 5 is left; both would: best(1, 1)", x.best(1, 1), HeartPins.NONE);
        x = Due.laid("p5;t0,0,5;t0,0,4;h4,1,30;");
        due.is("5 would walk to the door, 4 would not: best(1, 1)", x.best(1, 1), 0b10);
        x = Due.laid("p5;t0,0,5;t0,0,4;h4,1,1;");
        due.is("shaken out each day it walks nowhere: best(20, 1)", x.best(20, 1), 0b01);
    }

    // "(.. AT THE DOOR now: none)"
    private static void bestAtTheDoorNow() {
        HeartPins x = Due.laid("p60;t0,0,5;t0,0,5;h4,1,2;");
        x.stick(0);
        x.pass(1);
        for (int n : new int[] {0, 1, 20}) {
            due.is("at the door: best(" + n + ", 0)", x.best(n, 0), HeartPins.NONE);
            due.is("at the door: best(" + n + ", 1)", x.best(n, 1), HeartPins.NONE);
        }
        x.feel(0, 0);
        due.is("at the door, empty", x.best(0, 0), HeartPins.NONE);
        due.is("BAD ahead of NONE", x.best(21, 0), HeartPins.BAD);
        due.is("BAD ahead of NONE", x.best(0, 2), HeartPins.BAD);
        x.pass(1);
        due.is("shaken out", x.best(0, 0), 0);
    }

    // The set of no pins is one, too.
    private static void bestOfNoPins() {
        HeartPins x = Due.laid("p0;h0,1,30;");
        due.is("no pins: best(0, 0)", x.best(0, 0), 0);
        due.is("no pins: best(20, 1)", x.best(20, 1), 0);
        x = Due.laid("p0;t0,0,5;h60,1,30;");
        x.stick(0);
        due.is("no pins borne: best(20, 0)", x.best(20, 0), 0);
        due.is("no pins borne: best(20, 1)", x.best(20, 1), 0);
    }

    // "of sets of PINS that somebody BEARS"
    private static void bestOfThoseBorne() {
        HeartPins x = Due.laid("p0;t0,0,1;t0,2,1;t0,0,1;t0,0,1;h60,9,2;");
        x.stick(0);
        x.pass(2);
        x.stick(2);
        due.is("shaken out, gone, in the heart: the other alone", x.best(0, 1), 0b1000);
        due.is("one", x.best(0, 0), 1);
    }

    // "that of fewest, of several the lowest as bits"
    private static void bestFewestThenLowest() {
        HeartPins x = Due.laid("p7;t0,0,1;t0,0,1;t0,0,1;t0,0,1;t0,0,1;t0,0,1;t0,0,1;t0,0,1;h60,20,30;");
        due.is("any one: the lowest", x.best(0, 1), 1);
        x = Due.laid("p3;t0,0,1;t0,0,1;t0,0,1;t0,0,3;h60,20,30;");
        due.is("3 of 1, or one of 3", x.best(0, 1), 0b1000);
        x = Due.laid("p2;t0,0,1;t0,0,2;t0,0,1;h60,20,30;");
        due.is("1 and 1, or 2", x.best(0, 1), 0b010);
        x = Due.laid("p4;t0,0,2;t0,0,2;t0,0,3;t0,0,3;h60,20,30;");
        due.is("of two each, 6 away at least: 2 and 3 is too few", x.best(0, 1), 0b1100);
        x = Due.laid("p5;t0,0,2;t0,0,2;t0,0,3;t0,0,3;h60,20,30;");
        due.is("of two each, 5 away at least: the lowest as bits", x.best(0, 1), 0b0101);
        x = Due.laid("p60;p0;t1,0,1;t0,0,1;t0,0,1;t0,0,1;t0,0,1;t0,0,1;t0,0,1;t1,0,1;h60,20,30;");
        due.is("the first and the last", x.best(20, 1), 129);
        x = Due.laid("p0;" + "t0,0,1;".repeat(8) + "h60,20,30;");
        due.is("all: how many", x.best(20, 0), 8);
        due.is("all: which", x.best(20, 1), 255);
    }

    private static void bestNone() {
        HeartPins x = Due.laid("p0;t0,0,1;h0,1,30;");
        due.is("now it can be: best(0, 0)", x.best(0, 0), 1);
        due.is("borne it breaks, stuck it walks to the door: best(1, 0)", x.best(1, 0), HeartPins.NONE);
        due.is("borne it breaks, stuck it walks to the door: best(1, 1)", x.best(1, 1), HeartPins.NONE);
    }

    // "(0, if no PIN is BORNE)"
    private static void shareOfNone() {
        HeartPins x = Due.laid("p60;p0;");
        due.is("no pins", x.share(-1), 0);
        due.is("no pins: share(0)", x.share(0), HeartPins.BAD);
        x = Due.laid("p60;p0;t0,0,5;h60,9,1;");
        due.is("one", x.share(-1), 5);
        x.stick(0);
        due.is("in the heart", x.share(-1), 0);
        due.is("in the heart: share(0)", x.share(0), HeartPins.NONE);
        x.pass(1);
        due.is("shaken out", x.share(-1), 0);
        due.is("shaken out: share(0)", x.share(0), HeartPins.NONE);
        x = Due.laid("p60;p0;t0,2,1;");
        x.pass(1);
        due.is("gone", x.share(-1), 0);
        due.is("gone: share(0)", x.share(0), HeartPins.NONE);
    }

    private static void shareOfOne() {
        HeartPins x = Due.laid("p0;t0,0,5;t0,0,9;");
        due.is("one person bears all", x.share(-1), 14);
        due.is("one person: share(0)", x.share(0), 0);
        due.is("one person: share(1)", x.share(1), 0);
        due.is("share(-2)", x.share(-2), HeartPins.BAD);
        due.is("share(2)", x.share(2), HeartPins.BAD);
        x = Due.laid("p60;p60;t1,0,5;");
        due.is("one pin: the first person, whoever bears it", x.share(0), 0);
        due.is("one pin", x.share(-1), 5);
    }

    // "to be BORNE by any PERSONS": to the last one, whatever one can bear.
    private static void shareAmongAll() {
        HeartPins x = Due.laid("p0;p0;p0;p0;p0;t0,0,3;t0,0,3;t0,0,3;t0,0,3;t0,0,3;");
        due.is("five of 3 by five", x.share(-1), 3);
        for (int t = 0; t < 5; t++) {
            due.is("five of 3 by five: share(" + t + ")", x.share(t), t);
        }
        x = Due.laid("p1;" + "t0,1,20;".repeat(8));
        x.pass(20);
        due.is("eight of 40 by one", x.share(-1), 320);
        due.is("eight of 40 by one: share(7)", x.share(7), 0);
        x = Due.laid("p1;p1;p1;p1;p1;t4,0,8;t4,0,7;t4,0,6;t4,0,5;t4,0,4;t4,0,3;t4,0,2;t4,0,1;");
        int[] by = {0, 1, 2, 3, 4, 3, 2, 1};
        due.is("8 to 1 by five", x.share(-1), 8);
        for (int t = 0; t < 8; t++) {
            due.is("8 to 1 by five: share(" + t + ")", x.share(t), by[t]);
        }
    }

    // "of several the first (by whom the lowest PIN is BORNE by, the lowest ahead, then the next, ..)"
    private static void shareFirstOfSeveral() {
        HeartPins x = Due.laid("p1;p1;t1,0,1;t1,0,1;t1,0,2;");
        int[] first = {0, 0, 1};
        for (int t = 0; t < 3; t++) {
            due.is("1, 1, 2: share(" + t + ")", x.share(t), first[t]);
        }
        x = Due.laid("p1;p1;t1,0,2;t1,0,1;t1,0,1;");
        int[] second = {0, 1, 1};
        for (int t = 0; t < 3; t++) {
            due.is("2, 1, 1: share(" + t + ")", x.share(t), second[t]);
        }
        x = Due.laid("p1;p1;p1;t2,0,9;t2,0,1;t2,0,1;t2,0,9;");
        int[] third = {0, 1, 1, 2};
        due.is("9, 1, 1, 9", x.share(-1), 9);
        for (int t = 0; t < 4; t++) {
            due.is("9, 1, 1, 9: share(" + t + ")", x.share(t), third[t]);
        }
        x = Due.laid("p1;p1;t1,0,1;t1,0,9;t1,0,9;");
        int[] fourth = {0, 0, 1};
        for (int t = 0; t < 3; t++) {
            due.is("1, 9, 9: share(" + t + ")", x.share(t), fourth[t]);
        }
        due.is("1, 9, 9", x.share(-1), 10);
    }

    // "of all ways": not by giving each to whom it is lightest for.
    private static void shareNotByTheWay() {
        HeartPins x = Due.laid("p1;p1;t0,0,3;t0,0,3;t0,0,2;t0,0,2;t0,0,2;");
        int[] by = {0, 0, 1, 1, 1};
        due.is("3, 3, 2, 2, 2", x.share(-1), 6);
        for (int t = 0; t < 5; t++) {
            due.is("3, 3, 2, 2, 2: share(" + t + ")", x.share(t), by[t]);
        }
        x = Due.laid("p1;p1;t0,0,2;t0,0,3;t0,0,2;t0,0,3;t0,0,2;");
        int[] mixed = {0, 1, 0, 1, 0};
        for (int t = 0; t < 5; t++) {
            due.is("2, 3, 2, 3, 2: share(" + t + ")", x.share(t), mixed[t]);
        }
    }

    // "by whom a PIN is BORNE (NONE)", also behind an answer that had one.
    private static void shareByWhomNone() {
        HeartPins x = Due.laid("p1;p1;t0,0,5;t0,2,1;t0,0,5;h60,9,2;");
        due.is("borne: share(2)", x.share(2), 1);
        x.stick(2);
        due.is("in the heart: share(2)", x.share(2), HeartPins.NONE);
        due.is("borne: share(1)", x.share(1), 1);
        x.pass(1);
        due.is("gone: share(1)", x.share(1), HeartPins.NONE);
        x.pass(1);
        due.is("shaken out: share(2)", x.share(2), HeartPins.NONE);
        due.is("borne: share(0)", x.share(0), 0);
        due.is("share(3)", x.share(3), HeartPins.BAD);
    }

    // "by which, were it not there, fewest BREAK now"
    private static void reliefAsMuchIsNotMore() {
        HeartPins x = Due.laid("p5;t0,0,5;t0,0,1;");
        due.is("6 by 5: the larger of two that relieve", x.relief(0), 0);
        due.is("5 by 5 does not break", x.relief(1), 0);
        x = Due.laid("p4;t0,0,1;t0,0,5;t0,0,1;");
        due.is("7 by 4: one of 5 alone relieves", x.relief(0), 1);
        due.is("2 by 4", x.relief(1), 0);
        x = Due.laid("p3;t0,0,4;t0,0,4;");
        due.is("8 by 3: 4 is left", x.relief(1), 1);
        due.is("8 by 3: the lowest", x.relief(0), 0);
    }

    // "of several the LARGEST, of several the lowest"
    private static void reliefLargestThenLowest() {
        HeartPins x = Due.laid("p60;p60;t0,0,5;t1,0,9;t0,0,9;t1,0,2;");
        due.is("nobody breaks: the largest, the lowest of them", x.relief(0), 1);
        due.is("nobody breaks", x.relief(1), 0);
        x = Due.laid("p60;" + "t0,0,7;".repeat(8));
        due.is("eight alike", x.relief(0), 0);
        x = Due.laid("p60;" + "t0,0,7;".repeat(7) + "t0,0,8;");
        due.is("the last one", x.relief(0), 7);
        x = Due.laid("p0;p3;t0,0,2;t1,0,4;t1,0,1;");
        // Without 2 the other one breaks still, without 4 the first one, without 1 both.
        due.is("of two as good the larger", x.relief(0), 1);
        due.is("one breaks then", x.relief(1), 1);
    }

    private static void reliefFewest() {
        HeartPins x = Due.laid("p0;p9;t0,0,1;t1,0,9;");
        due.is("fewest ahead of the largest", x.relief(0), 0);
        due.is("none breaks then", x.relief(1), 0);
        x = Due.laid("p0;p0;p0;p0;p0;t0,0,1;t1,0,2;t2,0,5;t3,0,5;t4,0,3;");
        due.is("five break", x.count(7), 5);
        due.is("four then", x.relief(1), 4);
        due.is("the largest, the lowest of them", x.relief(0), 2);
        x = Due.laid("p0;p0;p0;p0;p0;t0,0,1;t1,0,2;t2,0,5;t3,0,5;t4,0,3;t0,0,1;t1,0,1;t2,0,1;");
        due.is("two each but of two: four then", x.relief(1), 4);
        due.is("of those who have one", x.relief(0), 3);
    }

    private static void reliefNone() {
        HeartPins x = Due.laid("p60;");
        due.is("no pins", x.relief(0), HeartPins.NONE);
        due.is("no pins", x.relief(1), HeartPins.NONE);
        due.is("BAD ahead of NONE", x.relief(2), HeartPins.BAD);
        due.is("BAD ahead of NONE", x.relief(-1), HeartPins.BAD);
        x = Due.laid("p60;t0,0,9;t0,2,1;t0,0,3;h60,9,2;");
        x.stick(0);
        due.is("one in the heart is not there", x.relief(0), 2);
        x.stick(2);
        due.is("one left", x.relief(0), 1);
        x.pass(1);
        due.is("gone and in the heart", x.relief(0), HeartPins.NONE);
        due.is("gone and in the heart", x.relief(1), HeartPins.NONE);
        x.pass(1);
        due.is("gone and shaken out", x.relief(0), HeartPins.NONE);
    }

    // "PAIR for v (2 to 80)"
    private static void pairLeastAndGreatest() {
        HeartPins x = Due.laid("p60;t0,0,1;t0,0,1;");
        due.is("pair(2)", x.pair(2), 1);
        due.is("pair(1)", x.pair(1), HeartPins.BAD);
        due.is("pair(0)", x.pair(0), HeartPins.BAD);
        x = Due.laid("p60;" + "t0,0,5;".repeat(6) + "t0,1,20;t0,1,20;");
        x.pass(20);
        due.is("pair(80)", x.pair(80), 67);
        due.is("pair(79)", x.pair(79), HeartPins.NONE);
        due.is("pair(81)", x.pair(81), HeartPins.BAD);
        due.is("pair(2)", x.pair(2), HeartPins.NONE);
        due.is("pair(45)", x.pair(45), 6);
    }

    // "the first two (by the lower one, then the other): 10 times the lower, and the other"
    private static void pairFirst() {
        HeartPins x = Due.laid("p60;t0,0,1;t0,0,5;t0,0,5;t0,0,4;t0,0,6;t0,0,6;t0,0,4;t0,0,9;");
        due.is("0 and 7 ahead of 1 and 2", x.pair(10), 7);
        due.is("0 and 1 ahead of 0 and 2", x.pair(6), 1);
        due.is("0 and 3 ahead of 0 and 6", x.pair(5), 3);
        due.is("1 and 3 ahead of 2 and 3", x.pair(9), 13);
        due.is("1 and 4 ahead of 1 and 5 and 2 and 4", x.pair(11), 14);
        due.is("3 and 6", x.pair(8), 36);
        due.is("4 and 5", x.pair(12), 45);
        due.is("4 and 7 ahead of 5 and 7", x.pair(15), 47);
        due.is("none", x.pair(3), HeartPins.NONE);
        x = Due.laid("p60;t0,0,9;t0,0,9;t0,0,2;t0,0,2;");
        due.is("2 and 3", x.pair(4), 23);
    }

    // "of two PINS": one is not two.
    private static void pairOfTwo() {
        HeartPins x = Due.laid("p60;t0,0,5;t0,0,3;");
        due.is("5 twice", x.pair(10), HeartPins.NONE);
        due.is("3 twice", x.pair(6), HeartPins.NONE);
        due.is("5 and 3", x.pair(8), 1);
        due.is("one pin", Due.laid("p60;t0,0,5;").pair(10), HeartPins.NONE);
        due.is("no pin", Due.laid("p60;").pair(2), HeartPins.NONE);
    }

    // "not GONE, SHAKEN OUT": but in the heart, and borne by another.
    private static void pairNotGoneNotShakenOut() {
        HeartPins x = Due.laid("p60;p60;t0,0,5;t0,2,1;t1,0,3;t1,0,2;h60,9,2;");
        due.is("5 and 1", x.pair(6), 1);
        due.is("5 and 3, of two persons", x.pair(8), 2);
        x.stick(0);
        due.is("one in the heart", x.pair(8), 2);
        x.stick(2);
        due.is("both in the heart", x.pair(8), 2);
        x.pass(1);
        due.is("5 and the one gone", x.pair(5), 23);
        due.is("3 and the one gone", x.pair(3), HeartPins.NONE);
        x.feel(0, 1);
        x.pass(1);
        due.is("3 is shaken out", x.pair(8), HeartPins.NONE);
        due.is("3 is shaken out", x.pair(5), HeartPins.NONE);
        due.is("5 and 2", x.pair(7), 3);
    }

    // "(40 at most)" in all that comes: a sharp one of 20 or 21 is 40 behind 20 days and on.
    private static void comesToFortyAtMost() {
        HeartPins x = Due.laid("p40;t0,1,20;h60,20,30;");
        due.is("behind(20, 0)", x.behind(20, 0), 40);
        due.is("behind(21, 0)", x.behind(21, 0), 40);
        due.is("behind(60, 0)", x.behind(60, 0), 40);
        due.is("breaks(0)", x.breaks(0), HeartPins.NONE);
        x.pass(1);
        due.is("21 by 40: best(20, 0)", x.best(20, 0), 0);
        x = Due.laid("p60;t0,1,20;h40,1,30;");
        x.stick(0);
        due.is("40 in a heart of room 40: door()", x.door(), HeartPins.NONE);
        due.is("40 in a heart of room 40: walked(29)", x.walked(29), 0);
        x = Due.laid("p60;t0,1,20;h39,1,30;");
        x.stick(0);
        due.is("40 in a heart of room 39: door()", x.door(), 21);
        x = Due.laid("p60;t0,0,20;t0,0,1;h20,20,30;");
        x.stick(0);
        x.stick(1);
        due.is("two in a full heart: walked(20)", x.walked(20), 20);
        due.is("two in a full heart: best(19, 0)", x.best(19, 0), 0);
        due.is("two in a full heart: best(20, 0)", x.best(20, 0), HeartPins.NONE);
    }

    // "what is as LARGE as 0 or less is GONE (0)" in all that comes: it is no less than 0, and comes back no more.
    private static void comesToNothing() {
        HeartPins x = Due.laid("p6;t0,2,1;t0,1,5;h6,1,30;");
        int[] loads = {6, 6, 7, 8, 9};
        for (int n = 0; n < loads.length; n++) {
            due.is("behind(" + n + ", 0)", x.behind(n, 0), loads[n]);
        }
        due.is("breaks(0)", x.breaks(0), 2);
        due.is("best(1, 0)", x.best(1, 0), 0);
        due.is("best(2, 0)", x.best(2, 0), 1);
        due.is("best(2, 1)", x.best(2, 1), 2);
        x.stick(0);
        x.stick(1);
        due.is("7 in it from day 2 on: door()", x.door(), 3);
        due.is("nothing borne: behind(60, 0)", x.behind(60, 0), 0);
        x = Due.laid("p60;t0,2,2;");
        due.is("a dull one: behind(1, 0)", x.behind(1, 0), 1);
        due.is("a dull one: behind(2, 0)", x.behind(2, 0), 0);
        due.is("a dull one: behind(3, 0)", x.behind(3, 0), 0);
        due.is("a dull one: behind(60, 0)", x.behind(60, 0), 0);
    }

    // "by the number of the DAY that goes by", and SHAKEN OUT by it, too: not by how many days from now it is.
    private static void comesByTheNumberOfTheDay() {
        HeartPins x = Due.laid("p6;t0,3,5;h6,1,30;");
        x.pass(1);
        due.is("6 by 6 on day 1: breaks(0)", x.breaks(0), HeartPins.NONE);
        due.is("6 by 6 on day 1: best(20, 0)", x.best(20, 0), 0);
        due.is("6 by 6 on day 1: behind(1, 0)", x.behind(1, 0), 5);
        x.stick(0);
        due.is("6 in a heart of room 6 on day 1: door()", x.door(), HeartPins.NONE);
        for (int door = 14; door <= 16; door++) {
            x = Due.laid("p60;t0,0,5;h4," + door + ",20;");
            x.pass(5);
            x.stick(0);
            due.is("from day 5, door " + door + ": door()", x.door(), door == 14 ? 14 : HeartPins.NONE);
            due.is("from day 5, door " + door + ": walked(14)", x.walked(14), 14);
            due.is("from day 5, door " + door + ": walked(15)", x.walked(15), 0);
            due.is("from day 5, door " + door + ": best(20, 0)", x.best(20, 0), door == 14 ? HeartPins.NONE : 0);
        }
    }
}
