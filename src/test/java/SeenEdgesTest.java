/** The boundary cases of section 4, what is SEEN and MARKED, and promises 22 to 26; each sentence has a test. */
public final class SeenEdgesTest {
    private static final Due due = new Due("SeenEdgesTest");

    public static void main(String[] args) {
        seenAtMost();
        seenNumbers();
        markedAtMost();
        markedNumbers();
        forgotten();
        kindsOfNothingSeen();
        kindsNow();
        kindsBehindTwenty();
        kindsFortyAtMost();
        kindsFortyOnUnevenDays();
        kindsDownToNothing();
        kindsOddToNothing();
        kindsOfAll();
        kindsOfThisPin();
        kindsFromNow();
        kindsOfOneGone();
        kindsWhereverItIs();
        whichNumbers();
        whichOfNone();
        whichOfAsMany();
        whichEachOne();
        whichFirstWay();
        whichBehind();
        whichFortyAndNothing();
        whichOnlyBorne();
        staysAsTheRestChanges();
        due.end();
    }

    // "SEEN (8 at most)"
    private static void seenAtMost() {
        HeartPins x = new HeartPins();
        for (int i = 1; i <= 8; i++) {
            due.is("see, the " + i + "th", x.see(7, 0, i < 8 ? 4 : 5), i);
            due.is("seen: count(8)", x.count(8), i);
            due.is("the 8th is seen, too", x.kinds(7), i < 8 ? 15 : 0);
        }
        due.is("the 9th", x.see(6, 0, 0), HeartPins.FULL);
        due.is("the 9th is not seen", x.kinds(6), 15);
        due.is("seen: count(8)", x.count(8), 8);
        due.is("BAD ahead of FULL: pin", x.see(8, 0, 0), HeartPins.BAD);
        due.is("BAD ahead of FULL: n", x.see(0, 21, 0), HeartPins.BAD);
        due.is("BAD ahead of FULL: v", x.see(0, 0, 41), HeartPins.BAD);
        due.is("the other list has room", x.mark(1), 1);
        due.is("forget", x.forget(), 9);
        due.is("room again", x.see(0, 0, 5), 1);
    }

    // "as LARGE as v (0 to 40) behind n (0 to 20) DAYS"
    private static void seenNumbers() {
        HeartPins x = new HeartPins();
        due.is("v of -1", x.see(0, 0, -1), HeartPins.BAD);
        due.is("v of 41", x.see(0, 0, 41), HeartPins.BAD);
        due.is("n of -1", x.see(0, -1, 0), HeartPins.BAD);
        due.is("n of 21", x.see(0, 21, 0), HeartPins.BAD);
        due.is("pin -1", x.see(-1, 0, 0), HeartPins.BAD);
        due.is("pin 8", x.see(8, 0, 0), HeartPins.BAD);
        due.is("none seen", x.count(8), 0);
        due.is("v of 0", x.see(0, 0, 0), 1);
        due.is("v of 40", x.see(0, 0, 40), 2);
        due.is("n of 20", x.see(0, 20, 0), 3);
        due.is("pin 7", x.see(7, 20, 40), 4);
        x = Due.laid("p1;");
        due.is("no pins", x.see(0, 0, 0), HeartPins.BAD);
    }

    // "MARKED (8 at most)"
    private static void markedAtMost() {
        HeartPins x = Due.laid("p60;" + "t0,0,5;".repeat(7) + "t0,0,6;");
        for (int i = 1; i <= 8; i++) {
            due.is("none marked of " + i, x.which(0, -1), 0);
            due.is("mark, the " + i + "th", x.mark(i < 8 ? 5 : 6), i);
            due.is("marked: count(9)", x.count(9), i);
        }
        due.is("all eight", x.which(0, -1), 5040);
        due.is("the 9th", x.mark(5), HeartPins.FULL);
        due.is("BAD ahead of FULL", x.mark(41), HeartPins.BAD);
        due.is("BAD ahead of FULL", x.mark(-1), HeartPins.BAD);
        due.is("marked: count(9)", x.count(9), 8);
        due.is("all eight still", x.which(0, -1), 5040);
        due.is("the 8th one is the last pin", x.which(0, 7), 7);
        due.is("the other list has room", x.see(0, 0, 0), 1);
        due.is("forget", x.forget(), 9);
        due.is("room again", x.mark(5), 1);
    }

    // "MARKED .. are numbers (0 to 40)"
    private static void markedNumbers() {
        HeartPins x = new HeartPins();
        due.is("mark(-1)", x.mark(-1), HeartPins.BAD);
        due.is("mark(41)", x.mark(41), HeartPins.BAD);
        due.is("none marked", x.count(9), 0);
        due.is("mark(0)", x.mark(0), 1);
        due.is("mark(40)", x.mark(40), 2);
    }

    // "Nothing is SEEN, MARKED: how many were, together": 0 to 16.
    private static void forgotten() {
        HeartPins x = new HeartPins();
        due.is("nothing", x.forget(), 0);
        x.see(0, 0, 0);
        due.is("one seen", x.forget(), 1);
        due.is("seen no more", x.kinds(0), 15);
        x.mark(0);
        due.is("one marked", x.forget(), 1);
        for (int i = 0; i < 8; i++) {
            x.see(0, 0, 0);
            x.mark(0);
        }
        due.is("all", x.forget(), 16);
        due.is("count(8)", x.count(8), 0);
        due.is("count(9)", x.count(9), 0);
        due.is("nothing again", x.forget(), 0);
    }

    private static void kindsOfNothingSeen() {
        HeartPins x = new HeartPins();
        for (int t = 0; t < 8; t++) {
            due.is("nothing seen: kinds(" + t + ")", x.kinds(t), 15);
        }
        due.is("kinds(-1)", x.kinds(-1), HeartPins.BAD);
        due.is("kinds(8)", x.kinds(8), HeartPins.BAD);
        due.is("no pins", Due.laid("p1;").kinds(0), HeartPins.BAD);
    }

    /** The kinds by which a pin, as it stands, is that large behind these days. */
    private static void kinds(HeartPins x, int t, int n, int v, int want) {
        x.forget();
        x.see(t, n, v);
        due.is("pin " + t + " of " + x.pin(t, 2) + " on day " + x.count(2) + ", behind " + n + " of " + v, x.kinds(t), want);
    }

    // "behind n (0 to 20) DAYS": behind 0 it is as it is, by any kind.
    private static void kindsNow() {
        HeartPins x = Due.laid("p60;t0,0,5;");
        kinds(x, 0, 0, 5, 15);
        kinds(x, 0, 0, 4, 0);
        kinds(x, 0, 0, 6, 0);
        kinds(x, 0, 1, 5, 0b0001);
        kinds(x, 0, 1, 6, 0b1010);
        kinds(x, 0, 1, 4, 0b0100);
        kinds(x, 0, 2, 5, 0b1001);
    }

    private static void kindsBehindTwenty() {
        HeartPins x = Due.laid("p60;t0,0,20;");
        kinds(x, 0, 19, 39, 0b0010);
        kinds(x, 0, 20, 40, 0b0010);
        kinds(x, 0, 20, 20, 0b1001);
        kinds(x, 0, 19, 21, 0b1000);
        kinds(x, 0, 19, 1, 0b0100);
        kinds(x, 0, 20, 0, 0b0100);
        kinds(x, 0, 20, 39, 0);
    }

    // "(40 at most)" of SHARP and ODD ones, on an even day.
    private static void kindsFortyAtMost() {
        HeartPins x = Due.laid("p60;t0,1,20;");
        x.pass(20);
        kinds(x, 0, 0, 40, 15);
        kinds(x, 0, 1, 40, 0b1011);
        kinds(x, 0, 1, 39, 0b0100);
        kinds(x, 0, 2, 39, 0b1000);
        kinds(x, 0, 2, 40, 0b0011);
        kinds(x, 0, 20, 40, 0b0011);
        x = Due.laid("p60;t0,1,19;");
        x.pass(20);
        kinds(x, 0, 1, 40, 0b1010);
        kinds(x, 0, 2, 40, 0b0010);
        kinds(x, 0, 2, 39, 0b1001);
    }

    private static void kindsFortyOnUnevenDays() {
        HeartPins x = Due.laid("p60;t0,1,20;");
        x.pass(21);
        kinds(x, 0, 1, 40, 0b0011);
        kinds(x, 0, 1, 39, 0b1100);
        kinds(x, 0, 2, 40, 0b1011);
        kinds(x, 0, 2, 38, 0b0100);
    }

    // "0 or less is GONE (0)": what is 0 stays 0.
    private static void kindsDownToNothing() {
        HeartPins x = Due.laid("p60;t0,0,1;t0,0,2;");
        kinds(x, 0, 1, 0, 0b0100);
        kinds(x, 0, 2, 0, 0b0100);
        kinds(x, 0, 20, 0, 0b0100);
        kinds(x, 0, 1, 1, 0b0001);
        kinds(x, 0, 2, 1, 0b1001);
        kinds(x, 1, 1, 1, 0b0100);
        kinds(x, 1, 2, 0, 0b0100);
        kinds(x, 1, 3, 0, 0b0100);
    }

    private static void kindsOddToNothing() {
        HeartPins x = Due.laid("p60;t0,0,1;t0,0,2;");
        x.pass(1);
        kinds(x, 0, 1, 0, 0b1100);
        kinds(x, 0, 2, 0, 0b1100);
        kinds(x, 0, 2, 1, 0b0001);
        kinds(x, 0, 20, 0, 0b1100);
        kinds(x, 1, 1, 1, 0b1100);
        kinds(x, 1, 2, 2, 0b1001);
        kinds(x, 1, 2, 0, 0b0100);
        kinds(x, 1, 20, 2, 0b1001);
    }

    // "all that is SEEN of it would be so"
    private static void kindsOfAll() {
        HeartPins x = Due.laid("p60;t0,0,5;");
        x.see(0, 2, 5);
        due.is("plain or odd", x.kinds(0), 0b1001);
        x.see(0, 1, 6);
        due.is("odd", x.kinds(0), 0b1000);
        x.see(0, 2, 5);
        due.is("seen twice", x.kinds(0), 0b1000);
        x.see(0, 3, 5);
        due.is("none", x.kinds(0), 0);
    }

    // "all that is SEEN of it": not of another.
    private static void kindsOfThisPin() {
        HeartPins x = Due.laid("p60;t0,0,5;t0,0,5;t0,0,5;");
        x.see(1, 0, 9);
        due.is("the one ahead", x.kinds(0), 15);
        due.is("this one", x.kinds(1), 0);
        due.is("the one behind", x.kinds(2), 15);
        x.see(2, 1, 6);
        due.is("of the last", x.kinds(2), 0b1010);
        due.is("of the first still", x.kinds(0), 15);
    }

    // "behind n DAYS from how it stands when that is asked": by its size and the day then.
    private static void kindsFromNow() {
        HeartPins x = Due.laid("p60;t0,1,5;");
        x.see(0, 1, 6);
        due.is("on day 0", x.kinds(0), 0b1010);
        x.pass(1);
        due.is("6 on day 1", x.kinds(0), 0b0001);
        x.pass(1);
        due.is("7 on day 2", x.kinds(0), 0b0100);
        x.undo();
        due.is("6 on day 1 again", x.kinds(0), 0b0001);
        x.undo();
        due.is("5 on day 0 again", x.kinds(0), 0b1010);
    }

    // "(one that is GONE is 0 LARGE now and behind any n, by any KIND)"
    private static void kindsOfOneGone() {
        HeartPins x = Due.laid("p60;t0,2,1;");
        x.pass(1);
        due.is("gone, nothing seen", x.kinds(0), 15);
        for (int n : new int[] {0, 1, 2, 19, 20}) {
            kinds(x, 0, n, 0, 15);
            kinds(x, 0, n, 1, 0);
        }
        x.pass(1);
        kinds(x, 0, 1, 0, 15);
        kinds(x, 0, 1, 1, 0);
        kinds(x, 0, 2, 0, 15);
    }

    // "BORNE all the while": as if, also for one in a full heart, and one shaken out.
    private static void kindsWhereverItIs() {
        HeartPins x = Due.laid("p60;t0,0,5;h0,9,3;");
        x.stick(0);
        kinds(x, 0, 1, 5, 0b0001);
        kinds(x, 0, 1, 6, 0b1010);
        kinds(x, 0, 1, 7, 0);
        kinds(x, 0, 3, 8, 0b0010);
        x.pass(3);
        due.is("shaken out", x.pin(0, 3), 2);
        kinds(x, 0, 0, 8, 15);
        kinds(x, 0, 1, 8, 0b0001);
        kinds(x, 0, 1, 9, 0b0010);
        kinds(x, 0, 1, 7, 0b1100);
    }

    // "WHICH for n (0 to 20)", "(k = -1 ..), the k-th PIN of the first way (0 to 7 ..)"
    private static void whichNumbers() {
        HeartPins x = new HeartPins();
        due.is("which(-1, -1)", x.which(-1, -1), HeartPins.BAD);
        due.is("which(21, -1)", x.which(21, -1), HeartPins.BAD);
        due.is("which(0, -2)", x.which(0, -2), HeartPins.BAD);
        due.is("which(0, 8)", x.which(0, 8), HeartPins.BAD);
        due.is("which(0, -1)", x.which(0, -1), 0);
        due.is("which(20, -1)", x.which(20, -1), 0);
        due.is("which(0, 0)", x.which(0, 0), HeartPins.NONE);
        due.is("which(20, 7)", x.which(20, 7), HeartPins.NONE);
    }

    // "(0, if they are not as many; 1, if there are none of either)"
    private static void whichOfNone() {
        HeartPins x = Due.laid("p60;t0,0,5;h60,9,1;");
        due.is("one borne, none marked", x.which(0, -1), 0);
        due.is("one borne, none marked", x.which(0, 0), HeartPins.NONE);
        x.stick(0);
        due.is("none of either", x.which(0, -1), 1);
        due.is("none of either", x.which(20, -1), 1);
        due.is("none of either: which(0, 0)", x.which(0, 0), HeartPins.NONE);
        due.is("none of either: which(0, 7)", x.which(0, 7), HeartPins.NONE);
        x.mark(5);
        due.is("none borne, one marked", x.which(0, -1), 0);
        due.is("none borne, one marked", x.which(0, 0), HeartPins.NONE);
        x = Due.laid("p60;");
        due.is("no pins", x.which(0, -1), 1);
        x.mark(0);
        due.is("no pins, one marked", x.which(0, -1), 0);
        x = Due.laid("p60;t0,2,1;");
        x.pass(1);
        due.is("gone: none of either", x.which(0, -1), 1);
        x.mark(0);
        due.is("gone: one marked", x.which(0, -1), 0);
    }

    private static void whichOfAsMany() {
        HeartPins x = Due.laid("p60;t0,0,5;t0,0,5;t0,0,5;");
        int[] ways = {0, 0, 0, 6, 0, 0};
        for (int many = 0; many < ways.length; many++) {
            due.is(many + " marked of 3 borne", x.which(0, -1), ways[many]);
            due.is(many + " marked of 3 borne: which(0, 0)", x.which(0, 0), many == 3 ? 0 : HeartPins.NONE);
            x.mark(5);
        }
        x = Due.laid("p60;" + "t0,0,5;".repeat(8));
        for (int i = 0; i < 8; i++) {
            x.mark(5);
        }
        due.is("8 of 8", x.which(0, -1), 40320);
        for (int k = 0; k < 8; k++) {
            due.is("8 of 8: which(0, " + k + ")", x.which(0, k), k);
        }
    }

    // "one each, all of them, each as LARGE as that"
    private static void whichEachOne() {
        HeartPins x = Due.laid("p60;t0,0,5;t0,0,6;");
        x.mark(5);
        x.mark(5);
        due.is("5, 5 of 5, 6", x.which(0, -1), 0);
        due.is("5, 5 of 5, 6: which(0, 0)", x.which(0, 0), HeartPins.NONE);
        due.is("5, 5 of 5, 6: which(0, 1)", x.which(0, 1), HeartPins.NONE);
        x.forget();
        x.mark(6);
        x.mark(5);
        due.is("6, 5 of 5, 6", x.which(0, -1), 1);
        due.is("6, 5 of 5, 6: which(0, 0)", x.which(0, 0), 1);
        due.is("6, 5 of 5, 6: which(0, 1)", x.which(0, 1), 0);
        due.is("6, 5 of 5, 6: which(0, 2)", x.which(0, 2), HeartPins.NONE);
        x.forget();
        x.mark(5);
        x.mark(7);
        due.is("5, 7 of 5, 6", x.which(0, -1), 0);
        x.forget();
        x.mark(7);
        x.mark(5);
        due.is("7, 5 of 5, 6: which(0, 1)", x.which(0, 1), HeartPins.NONE);
    }

    // "the first way (by the first one, the lowest PIN ahead, then the next, ..)"
    private static void whichFirstWay() {
        HeartPins x = Due.laid("p60;p60;t0,0,5;t1,0,3;t0,0,5;t1,0,3;");
        for (int v : new int[] {3, 5, 3, 5}) {
            x.mark(v);
        }
        int[] first = {1, 0, 3, 2};
        due.is("2 of 5 and 2 of 3", x.which(0, -1), 4);
        for (int k = 0; k < 4; k++) {
            due.is("2 of 5 and 2 of 3: which(0, " + k + ")", x.which(0, k), first[k]);
        }
        due.is("2 of 5 and 2 of 3: which(0, 4)", x.which(0, 4), HeartPins.NONE);
    }

    // "each as LARGE as that behind n DAYS of being BORNE"
    private static void whichBehind() {
        HeartPins x = Due.laid("p60;t0,1,20;t0,3,19;");
        x.mark(40);
        x.mark(19);
        due.is("behind 20", x.which(20, -1), 1);
        due.is("behind 19", x.which(19, -1), 0);
        due.is("behind 0", x.which(0, -1), 0);
        x.forget();
        x.mark(20);
        x.mark(19);
        due.is("behind 0: now", x.which(0, -1), 1);
        due.is("behind 1", x.which(1, -1), 0);
        x.forget();
        x.mark(20);
        x.mark(21);
        due.is("behind 1: the odd one first", x.which(1, 0), 1);
        due.is("behind 1: the sharp one then", x.which(1, 1), 0);
        x.pass(1);
        due.is("now it is so behind 0", x.which(0, -1), 1);
        x.forget();
        x.mark(22);
        x.mark(19);
        due.is("from an uneven day", x.which(1, -1), 1);
    }

    // As large as 40 at most, and as 0, where one borne now would be gone by then.
    private static void whichFortyAndNothing() {
        HeartPins x = Due.laid("p60;t0,1,20;t0,2,1;");
        x.mark(0);
        x.mark(21);
        due.is("behind 1", x.which(1, -1), 1);
        due.is("behind 1: which(1, 0)", x.which(1, 0), 1);
        x.forget();
        x.mark(0);
        x.mark(40);
        due.is("behind 20", x.which(20, -1), 1);
        due.is("behind 19", x.which(19, -1), 0);
        x = Due.laid("p60;t0,1,20;");
        x.pass(20);
        x.mark(40);
        due.is("40 now", x.which(0, -1), 1);
        due.is("40 behind 1", x.which(1, -1), 1);
        due.is("40 behind 20", x.which(20, -1), 1);
    }

    // "PINS that somebody BEARS now"
    private static void whichOnlyBorne() {
        HeartPins x = Due.laid("p60;t0,0,5;t0,2,1;t0,0,5;t0,0,5;h60,9,2;");
        x.stick(0);
        x.pass(2);
        x.stick(2);
        x.mark(5);
        due.is("shaken out, gone, in the heart: the other alone", x.which(0, -1), 1);
        due.is("the other alone", x.which(0, 0), 3);
        x.mark(5);
        due.is("two marked", x.which(0, -1), 0);
        x.feel(2, 0);
        due.is("two borne", x.which(0, -1), 2);
        due.is("two borne: the first", x.which(0, 0), 2);
    }

    // What is seen and marked stays by acts, days and what is undone.
    private static void staysAsTheRestChanges() {
        HeartPins x = new HeartPins();
        x.see(0, 0, 5);
        x.see(2, 1, 9);
        x.mark(5);
        x.stick(3);
        x.bear(0, 1);
        x.pass(24);
        x.undo();
        x.keep();
        x.back();
        due.is("count(8)", x.count(8), 2);
        due.is("count(9)", x.count(9), 1);
        due.is("kinds(0)", x.kinds(0), 15);
        due.is("kinds(2)", x.kinds(2), 1);
    }
}
