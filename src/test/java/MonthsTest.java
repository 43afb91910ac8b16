/** Promises 27 to 31: BAD DAYS, MONTHS, KEPT, how many. */
public final class MonthsTest {
    private static final Due due = new Due("MonthsTest");

    public static void main(String[] args) {
        badNumbers();
        badDays();
        badAheadOfTheDay();
        badInTheHeart();
        monthNumbers();
        months();
        monthsStep();
        keeping();
        counting();
        due.end();
    }

    private static void chance(HeartPins x, int p, int n, int tenths, int above, int below) {
        String call = "bad(" + p + ", " + n + ", " + tenths + ", ";
        due.is(call + "0)", x.bad(p, n, tenths, 0), above);
        due.is(call + "1)", x.bad(p, n, tenths, 1), below);
    }

    private static void badNumbers() {
        HeartPins x = new HeartPins();
        due.is("bad(-1, 1, 1, 0)", x.bad(-1, 1, 1, 0), HeartPins.BAD);
        due.is("bad(4, 1, 1, 0)", x.bad(4, 1, 1, 0), HeartPins.BAD);
        due.is("bad(0, -1, 1, 0)", x.bad(0, -1, 1, 0), HeartPins.BAD);
        due.is("bad(0, 9, 1, 0)", x.bad(0, 9, 1, 0), HeartPins.BAD);
        due.is("bad(0, 1, -1, 0)", x.bad(0, 1, -1, 0), HeartPins.BAD);
        due.is("bad(0, 1, 11, 0)", x.bad(0, 1, 11, 0), HeartPins.BAD);
        due.is("bad(0, 1, 1, -1)", x.bad(0, 1, 1, -1), HeartPins.BAD);
        due.is("bad(0, 1, 1, 2)", x.bad(0, 1, 1, 2), HeartPins.BAD);
    }

    private static void badDays() {
        HeartPins x = Due.laid("p5;p2;p9;p0;t0,0,4;t1,0,3;t2,0,1;");
        // 4 by 5: two bad days of n.
        chance(x, 0, 0, 5, 0, 1);
        chance(x, 0, 1, 10, 0, 1);
        chance(x, 0, 2, 5, 1, 4);
        chance(x, 0, 2, 3, 9, 100);
        chance(x, 0, 3, 5, 1, 2);
        chance(x, 0, 3, 1, 7, 250);
        chance(x, 0, 2, 10, 1, 1);
        chance(x, 0, 8, 0, 0, 1);
        // It breaks now and on: by any days, but not by none.
        chance(x, 1, 0, 5, 0, 1);
        chance(x, 1, 1, 0, 1, 1);
        chance(x, 1, 8, 3, 1, 1);
        // 1 by 9: no eight days make it more than 9.
        chance(x, 2, 8, 10, 0, 1);
        chance(x, 3, 8, 10, 0, 1);
        due.is("nothing is done", x.pin(0, 2), 4);
        x = Due.laid("p8;t0,0,1;");
        chance(x, 0, 8, 1, 1, 100000000);
        chance(x, 0, 8, 9, 43046721, 100000000);
        x = Due.laid("p5;t0,2,6;");
        // It breaks now; behind the first good day no more.
        chance(x, 0, 1, 4, 2, 5);
        x = Due.laid("p6;t0,3,6;");
        // Behind day 0 it breaks, behind day 1 not: at least one of these is enough.
        chance(x, 0, 2, 0, 1, 1);
        x.pass(1);
        chance(x, 0, 1, 0, 0, 1);
        // On an uneven day 7 is 6 then, behind a bad one 7.
        chance(x, 0, 1, 7, 7, 10);
        chance(x, 0, 2, 7, 1, 1);
        x = Due.laid("p9;p9;t0,0,5;t0,0,5;t0,1,1;");
        x.bear(1, 1);
        // 5 and a sharp one of 1: 1 more by a good day, 3 more by a bad one: 8 by two good ones, else more than 9.
        chance(x, 0, 1, 5, 0, 1);
        chance(x, 0, 2, 5, 3, 4);
        chance(x, 1, 4, 10, 0, 1);
        chance(x, 1, 5, 10, 1, 1);
    }

    private static void badAheadOfTheDay() {
        HeartPins x = Due.laid("p0;t0,2,1;");
        // On a bad day a dull one of 1 is 2 first, then 1; on a good one it is gone, and grows no more.
        chance(x, 0, 1, 3, 3, 10);
        chance(x, 0, 3, 3, 3, 10);
        x = Due.laid("p60;t0,1,20;t0,0,20;");
        x.pass(20);
        // 40 and 20: each bad day makes 1 more, but the sharp one stays.
        chance(x, 0, 1, 10, 1, 1);
        chance(x, 0, 1, 0, 0, 1);
        x = Due.laid("p39;t0,2,20;t0,1,20;");
        x.pass(19);
        x.stick(0);
        // 39 behind 19 days; a sharp one of 39 is 40 whether or not the day is bad.
        chance(x, 0, 1, 0, 1, 1);
    }

    private static void badInTheHeart() {
        HeartPins x = Due.laid("p0;t0,0,5;t0,0,5;h60,9,30;");
        x.stick(0);
        x.stick(1);
        chance(x, 0, 8, 10, 0, 1);
        x.feel(0, 0);
        chance(x, 0, 1, 10, 1, 1);
        due.is("nothing is done", x.heart(4), 5);
    }

    private static void monthNumbers() {
        HeartPins x = new HeartPins();
        due.is("month(-1, 1, 0)", x.month(-1, 1, 0), HeartPins.BAD);
        due.is("month(10000, 1, 0)", x.month(10000, 1, 0), HeartPins.BAD);
        due.is("month(0, 0, 0)", x.month(0, 0, 0), HeartPins.BAD);
        due.is("month(0, 61, 0)", x.month(0, 61, 0), HeartPins.BAD);
        due.is("month(0, 1, -1)", x.month(0, 1, -1), HeartPins.BAD);
        due.is("month(0, 1, 2)", x.month(0, 1, 2), HeartPins.BAD);
        due.is("month(9999, 60, 1)", x.month(9999, 60, 1) >= 0 ? 1 : 0, 1);
    }

    private static long draw(long z, long k) {
        long x = 7919 * z + 6151 * k + 1;
        return x * x % 65521;
    }

    /** By z: of a family whose pins are told apart in a sum, what stands behind the first day, worked out from the draw. */
    private static void months() {
        HeartPins x = five();
        for (int z = 0; z < 200; z++) {
            long draw = draw(z, 0);
            int t = (int) (draw / 8 % 5);
            boolean stuck = draw % 8 <= 2;
            due.is("month(" + z + ", 1, 0)", x.month(z, 1, 0), stuck ? 31 - (1 << t) : 31);
            due.is("month(" + z + ", 1, 1)", x.month(z, 1, 1), stuck && t >= 2 ? 1 : 0);
        }
        due.is("nothing is done", x.count(2), 0);
        due.is("nothing is done", x.count(3), 5);
        due.is("nothing is done", x.count(10), 0);
        x = five();
        x.stick(0);
        for (int z = 0; z < 300; z++) {
            long draw = draw(z, 0);
            int t = (int) (draw / 8 % 5);
            int felt = draw % 8 == 3 && t == 0 ? 1 : 0;
            int stuck = draw % 8 <= 2 && t > 0 ? 1 << t : 0;
            due.is("felt for: month(" + z + ", 1, 0)", x.month(z, 1, 0), 30 + felt - stuck);
        }
        alone();
        due.is("no pins", Due.laid("p60;").month(77, 60, 0), 0);
    }

    private static HeartPins five() {
        return Due.laid("p60;p60;p60;t0,0,1;t1,0,2;t2,0,4;t0,0,8;t1,0,16;h3,20,30;");
    }

    /** One pin of one person: each draw is of it. */
    private static void alone() {
        HeartPins x = Due.laid("p60;t0,0,7;h3,20,30;");
        for (int z = 0; z < 40; z++) {
            boolean stuck = draw(z, 0) % 8 <= 2;
            due.is("alone: month(" + z + ", 1, 0)", x.month(z, 1, 0), stuck ? 0 : 7);
            due.is("alone: month(" + z + ", 1, 1)", x.month(z, 1, 1), stuck ? 1 : 0);
        }
    }

    /** The same acts and days by hand on another object come to the same. */
    private static void monthsStep() {
        for (int z = 0; z < 10000; z += 487) {
            HeartPins x = new HeartPins();
            HeartPins byHand = new HeartPins();
            x.pass(5);
            byHand.pass(5);
            for (int k = 0; k < 60; k++) {
                long draw = draw(z, k);
                int t = (int) (draw / 8 % 8);
                int p = (int) (draw / 64 % 4);
                int act = (int) (draw % 8);
                if (act <= 2) {
                    byHand.stick(t);
                } else if (act == 3) {
                    byHand.feel(t, p);
                } else if (act == 4) {
                    byHand.bear(t, p);
                }
                byHand.pass(1);
                int loads = 0;
                for (int who = 0; who < 4; who++) {
                    loads += byHand.person(who, 1);
                }
                due.is("month(" + z + ", " + (k + 1) + ", 0)", x.month(z, k + 1, 0), loads);
                due.is("month(" + z + ", " + (k + 1) + ", 1)", x.month(z, k + 1, 1), byHand.heart(3));
            }
        }
    }

    private static void keeping() {
        HeartPins x = new HeartPins();
        due.is("back, nothing kept", x.back(), HeartPins.NO);
        x.stick(2);
        x.stick(6);
        x.pass(1);
        due.is("keep", x.keep(), 1);
        due.is("keep is nothing to undo", x.count(10), 3);
        x.feel(2, 0);
        x.pass(4);
        x.write('q');
        due.is("keep", x.keep(), 2);
        due.is("keep", x.keep(), HeartPins.FULL);
        due.is("count(11)", x.count(11), 2);
        x.bear(0, 3);
        x.pass(9);
        x.see(0, 0, 0);
        x.mark(1);
        x.write('p');
        due.is("back", x.back(), 1);
        due.is("back: count(2)", x.count(2), 5);
        due.is("back: pin(0, 4)", x.pin(0, 4), 0);
        due.is("back: pin(2, 4)", x.pin(2, 4), 0);
        due.is("back: pin(7, 3)", x.pin(7, 3), 3);
        due.is("back: what is seen stays", x.count(8), 1);
        due.is("back: what is marked stays", x.count(9), 1);
        due.is("back: the text stays", x.count(12), 2);
        due.is("back: count(10)", x.count(10), 0);
        due.is("back: undo", x.undo(), HeartPins.NO);
        due.is("keep once more", x.keep(), 2);
        due.is("back once more", x.back(), 1);
        due.is("back", x.back(), 0);
        due.is("back: count(2)", x.count(2), 1);
        due.is("back: pin(2, 3)", x.pin(2, 3), 1);
        due.is("back: pin(7, 2)", x.pin(7, 2), 3);
        due.is("back: heart(3)", x.heart(3), 1);
        due.is("back: heart(4)", x.heart(4), 18);
        due.is("back, no more", x.back(), HeartPins.NO);
        due.is("at NO nothing changes", x.count(2), 1);
        x.keep();
        x.pass(1);
        x.undo();
        due.is("undo leaves what is kept", x.count(11), 1);
    }

    private static void counting() {
        HeartPins x = Due.laid("p5;p60;t0,0,6;t1,2,1;t1,0,4;t1,0,5;h60,9,2;");
        due.is("count(-1)", x.count(-1), HeartPins.BAD);
        due.is("count(13)", x.count(13), HeartPins.BAD);
        due.is("count(max)", x.count(Integer.MAX_VALUE), HeartPins.BAD);
        due.is("count(min)", x.count(Integer.MIN_VALUE), HeartPins.BAD);
        x.stick(2);
        x.pass(2);
        x.stick(3);
        x.see(0, 0, 0);
        x.see(0, 0, 0);
        x.mark(0);
        x.keep();
        int[] want = {2, 4, 2, 1, 1, 1, 1, 1, 2, 1, 3, 1, 43};
        for (int what = 0; what < want.length; what++) {
            due.is("count(" + what + ")", x.count(what), want[what]);
        }
        x.wipe();
        due.is("count(12)", x.count(12), 0);
    }
}
