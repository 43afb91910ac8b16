/** Promises 22 to 26: SEEN, MARKED, KINDS, WHICH. */
public final class SeenTest {
    private static final Due due = new Due("SeenTest");

    public static void main(String[] args) {
        seeing();
        marking();
        forgetting();
        kinds();
        kindsAsThingsStand();
        whichOfSeveral();
        whichBehind();
        whichOfNone();
        due.end();
    }

    private static void seeing() {
        HeartPins x = new HeartPins();
        due.is("see(-1, 0, 0)", x.see(-1, 0, 0), HeartPins.BAD);
        due.is("see(8, 0, 0)", x.see(8, 0, 0), HeartPins.BAD);
        due.is("see(0, -1, 0)", x.see(0, -1, 0), HeartPins.BAD);
        due.is("see(0, 21, 0)", x.see(0, 21, 0), HeartPins.BAD);
        due.is("see(0, 0, -1)", x.see(0, 0, -1), HeartPins.BAD);
        due.is("see(0, 0, 41)", x.see(0, 0, 41), HeartPins.BAD);
        due.is("see(7, 20, 40)", x.see(7, 20, 40), 1);
        due.is("see(0, 0, 0)", x.see(0, 0, 0), 2);
        for (int i = 3; i <= 8; i++) {
            due.is("see, the " + i + "th", x.see(0, 0, 0), i);
        }
        due.is("see, the 9th", x.see(0, 0, 0), HeartPins.FULL);
        due.is("see, BAD ahead of FULL", x.see(0, 0, 41), HeartPins.BAD);
        due.is("count(8)", x.count(8), 8);
        due.is("count(9)", x.count(9), 0);
    }

    private static void marking() {
        HeartPins x = new HeartPins();
        due.is("mark(-1)", x.mark(-1), HeartPins.BAD);
        due.is("mark(41)", x.mark(41), HeartPins.BAD);
        due.is("mark(40)", x.mark(40), 1);
        due.is("mark(0)", x.mark(0), 2);
        for (int i = 3; i <= 8; i++) {
            due.is("mark, the " + i + "th", x.mark(1), i);
        }
        due.is("mark, the 9th", x.mark(1), HeartPins.FULL);
        due.is("mark, BAD ahead of FULL", x.mark(41), HeartPins.BAD);
        due.is("count(9)", x.count(9), 8);
        due.is("count(8)", x.count(8), 0);
    }

    private static void forgetting() {
        HeartPins x = new HeartPins();
        due.is("forget nothing", x.forget(), 0);
        x.see(0, 0, 0);
        x.see(0, 0, 0);
        x.mark(3);
        due.is("kinds(0)", x.kinds(0), 0);
        due.is("forget", x.forget(), 3);
        due.is("count(8)", x.count(8), 0);
        due.is("count(9)", x.count(9), 0);
        due.is("kinds(0)", x.kinds(0), 15);
        due.is("forget again", x.forget(), 0);
        due.is("see", x.see(0, 0, 5), 1);
        due.is("mark", x.mark(5), 1);
    }

    private static void kinds() {
        HeartPins x = Due.laid("p60;t0,0,5;t0,1,5;t0,2,5;t0,3,20;");
        due.is("kinds(-1)", x.kinds(-1), HeartPins.BAD);
        due.is("kinds(4)", x.kinds(4), HeartPins.BAD);
        due.is("nothing seen", x.kinds(0), 15);
        x.see(0, 0, 5);
        due.is("now, any kind", x.kinds(0), 15);
        x.see(0, 2, 5);
        due.is("as large behind 2: plain or odd", x.kinds(0), 0b1001);
        x.see(0, 3, 5);
        due.is("as large behind 3: plain", x.kinds(0), 0b0001);
        x.see(1, 1, 6);
        due.is("1 larger behind 1: sharp or odd", x.kinds(1), 0b1010);
        x.see(1, 20, 25);
        due.is("20 larger behind 20: sharp", x.kinds(1), 0b0010);
        x.see(2, 5, 0);
        due.is("0 behind 5: dull", x.kinds(2), 0b0100);
        x.see(2, 20, 0);
        due.is("0 behind 20 too", x.kinds(2), 0b0100);
        x.see(2, 1, 5);
        due.is("not all", x.kinds(2), 0);
        due.is("of another pin", x.kinds(3), 15);
    }

    private static void kindsAsThingsStand() {
        HeartPins x = Due.laid("p60;t0,2,4;t0,1,20;t0,0,9;t0,1,3;h5,9,30;");
        x.see(0, 1, 2);
        x.see(1, 20, 40);
        due.is("not as large", x.kinds(0), 0);
        due.is("40 at most: 20 behind 20", x.kinds(1), 0b0010);
        x.pass(1);
        due.is("3 now, on an uneven day: dull or odd", x.kinds(0), 0b1100);
        due.is("40 at most: 21 behind 20", x.kinds(1), 0b0010);
        x.forget();
        x.pass(2);
        x.see(0, 1, 0);
        due.is("1 now, on an uneven day: dull or odd", x.kinds(0), 0b1100);
        x.see(0, 2, 0);
        due.is("an odd one that is gone stays so", x.kinds(0), 0b1100);
        x.see(0, 20, 0);
        due.is("for ever", x.kinds(0), 0b1100);
        x.see(0, 0, 1);
        due.is("and is 1 now", x.kinds(0), 0b1100);
        x.pass(1);
        due.is("it is gone", x.pin(0, 3), 3);
        due.is("one gone is 0 now, too", x.kinds(0), 0);
        x.forget();
        due.is("one gone, nothing seen", x.kinds(0), 15);
        x.see(0, 0, 0);
        x.see(0, 7, 0);
        due.is("one gone is 0 by any kind", x.kinds(0), 15);
        x.stick(2);
        x.pass(1);
        x.see(2, 1, 10);
        due.is("in a full heart, but as if borne: 10 now", x.kinds(2), 0b0001);
        x = Due.laid("p60;t0,1,3;h60,9,1;");
        x.stick(0);
        x.pass(1);
        x.see(0, 2, 6);
        due.is("shaken out, but as if borne", x.kinds(0), 0b0010);
        x = Due.laid("p60;t0,0,20;h60,9,30;t0,3,20;");
        x.stick(1);
        x.see(1, 1, 21);
        x.see(1, 2, 20);
        due.is("in the heart, odd", x.kinds(1), 0b1000);
    }

    private static void whichOfSeveral() {
        HeartPins x = Due.laid("p60;p60;t0,0,5;t1,0,3;t0,0,5;t1,0,5;t1,0,3;t0,0,1;h60,9,30;");
        due.is("which(-1, 0)", x.which(-1, 0), HeartPins.BAD);
        due.is("which(21, 0)", x.which(21, 0), HeartPins.BAD);
        due.is("which(0, -2)", x.which(0, -2), HeartPins.BAD);
        due.is("which(0, 8)", x.which(0, 8), HeartPins.BAD);
        int[] marks = {3, 5, 1, 5, 3, 5};
        int[] first = {1, 0, 5, 2, 4, 3};
        for (int k = 0; k < marks.length; k++) {
            due.is("not as many: which(0, -1)", x.which(0, -1), 0);
            due.is("not as many: which(0, 0)", x.which(0, 0), HeartPins.NONE);
            x.mark(marks[k]);
        }
        due.is("3 of 5 and 2 of 3", x.which(0, -1), 12);
        for (int k = 0; k < marks.length; k++) {
            due.is("which(0, " + k + ")", x.which(0, k), first[k]);
        }
        due.is("which(0, 6)", x.which(0, 6), HeartPins.NONE);
        due.is("which(0, 7)", x.which(0, 7), HeartPins.NONE);
        x.stick(0);
        due.is("one in the heart: not as many", x.which(0, -1), 0);
        due.is("one in the heart: not as many", x.which(0, 0), HeartPins.NONE);
        x.forget();
        for (int v : new int[] {3, 5, 1, 5, 3}) {
            x.mark(v);
        }
        due.is("2 of 5 and 2 of 3", x.which(0, -1), 4);
        due.is("the first 5", x.which(0, 1), 2);
        x.mark(5);
        due.is("more than borne", x.which(0, -1), 0);
        x = Due.laid("p60;t0,0,5;t0,0,3;");
        x.mark(5);
        x.mark(4);
        due.is("none as large", x.which(0, -1), 0);
        due.is("none as large", x.which(0, 0), HeartPins.NONE);
        x.forget();
        x.mark(5);
        x.mark(5);
        due.is("one each", x.which(0, -1), 0);
        x.forget();
        x.mark(3);
        x.mark(5);
        due.is("one way", x.which(0, -1), 1);
        due.is("one way: which(0, 0)", x.which(0, 0), 1);
        due.is("one way: which(0, 1)", x.which(0, 1), 0);
        x = Due.laid("p60;t0,0,5;t0,0,5;t0,0,5;t0,0,5;t0,0,5;t0,0,5;t0,0,5;t0,0,5;");
        for (int k = 0; k < 8; k++) {
            x.mark(5);
        }
        due.is("all alike", x.which(20, -1), 40320);
        due.is("all alike: which(20, 7)", x.which(20, 7), 7);
    }

    private static void whichBehind() {
        HeartPins x = Due.laid("p60;t0,0,6;t0,1,4;t0,2,8;t0,3,5;t0,2,1;h1,9,30;");
        for (int v : new int[] {6, 6, 6, 5, 0}) {
            x.mark(v);
        }
        due.is("now: which(0, -1)", x.which(0, -1), 0);
        due.is("behind 2: which(2, -1)", x.which(2, -1), 6);
        due.is("behind 2: which(2, 3)", x.which(2, 3), 3);
        due.is("behind 2: which(2, 4)", x.which(2, 4), 4);
        due.is("behind 3: which(3, -1)", x.which(3, -1), 0);
        x.pass(1);
        due.is("gone is not borne", x.which(1, -1), 0);
        x.forget();
        for (int v : new int[] {5, 6, 6, 6}) {
            x.mark(v);
        }
        due.is("behind 1, from day 1", x.which(1, -1), 6);
        due.is("behind 1, from day 1", x.which(1, 0), 3);
        due.is("behind 1, from day 1", x.which(1, 1), 0);
        due.is("nothing is done", x.count(2), 1);
    }

    private static void whichOfNone() {
        HeartPins x = Due.laid("p60;");
        due.is("none of either", x.which(0, -1), 1);
        due.is("none of either", x.which(20, -1), 1);
        due.is("none of either: which(0, 0)", x.which(0, 0), HeartPins.NONE);
        x.mark(0);
        due.is("one marked", x.which(0, -1), 0);
        due.is("one marked", x.which(0, 0), HeartPins.NONE);
        x = Due.laid("p60;t0,0,5;h60,9,30;");
        due.is("one borne", x.which(0, -1), 0);
        x.stick(0);
        due.is("none borne", x.which(0, -1), 1);
    }
}
