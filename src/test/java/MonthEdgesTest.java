/** The boundary cases of BAD DAYS, MONTHS and what is KEPT, promises 27 to 30; each sentence has a test. */
public final class MonthEdgesTest {
    private static final Due due = new Due("MonthEdgesTest");

    public static void main(String[] args) {
        badNumbers();
        badOfNoDays();
        badOfEightDays();
        badNeverAndAlways();
        badLowestTerms();
        badNotAsTheyStandNow();
        badBehindAnyOfThem();
        badFortyAtMost();
        badAheadOfTheDay();
        badBorneAlone();
        badAsMuchIsNotMore();
        monthNumbers();
        monthOfNoPins();
        monthByEachDraw();
        monthOfEachPin();
        monthIfItCanBe();
        monthFromNowOn();
        monthByGreatNumbers();
        keptAtMost();
        keptLastFirst();
        keptAsItStands();
        backBehindWhichNothingIsUndone();
        keptAndUndone();
        keptLeavesTextAndNotes();
        due.end();
    }

    private static void chance(HeartPins x, int p, int n, int tenths, int above, int below) {
        String call = "bad(" + p + ", " + n + ", " + tenths + ", ";
        due.is(call + "0)", x.bad(p, n, tenths, 0), above);
        due.is(call + "1)", x.bad(p, n, tenths, 1), below);
    }

    // "n (0 to 8) DAYS", "by x (0 to 10) of ten", "above (part = 0), below (1)"
    private static void badNumbers() {
        HeartPins x = Due.laid("p0;t0,0,5;");
        int[][] wrong = {{-1, 1, 1, 0}, {1, 1, 1, 0}, {0, -1, 1, 0}, {0, 9, 1, 0}, {0, 1, -1, 0}, {0, 1, 11, 0}, {0, 1, 1, -1},
            {0, 1, 1, 2}};
        for (int[] n : wrong) {
            due.is("bad, one number wrong", x.bad(n[0], n[1], n[2], n[3]), HeartPins.BAD);
        }
        chance(x, 0, 0, 0, 0, 1);
        chance(x, 0, 8, 10, 1, 1);
    }

    // Of no days none is there behind which somebody could break: 0 of 1, also where one breaks now.
    private static void badOfNoDays() {
        HeartPins x = Due.laid("p0;p9;t0,0,5;");
        for (int tenths = 0; tenths <= 10; tenths++) {
            chance(x, 0, 0, tenths, 0, 1);
            chance(x, 1, 0, tenths, 0, 1);
        }
    }

    private static void badOfEightDays() {
        HeartPins x = Due.laid("p8;p9;p7;t0,0,1;t1,0,1;t2,0,1;");
        // Eight bad ones make 9 of 1: more than 8 by all of them, more than 9 by none, more than 7 by seven of them.
        chance(x, 0, 8, 1, 1, 100000000);
        chance(x, 0, 8, 10, 1, 1);
        chance(x, 0, 7, 10, 0, 1);
        chance(x, 0, 8, 5, 1, 256);
        chance(x, 0, 8, 9, 43046721, 100000000);
        chance(x, 1, 8, 10, 0, 1);
        chance(x, 2, 7, 5, 1, 128);
        chance(x, 2, 8, 5, 9, 256);
        chance(x, 2, 8, 1, 73, 100000000);
    }

    // "by x (0 to 10) of ten a bad one": 0 never, 10 always.
    private static void badNeverAndAlways() {
        HeartPins x = Due.laid("p5;p5;t0,0,5;t1,1,5;");
        chance(x, 0, 8, 0, 0, 1);
        chance(x, 0, 1, 10, 1, 1);
        chance(x, 0, 1, 1, 1, 10);
        chance(x, 0, 1, 9, 9, 10);
        chance(x, 0, 2, 1, 19, 100);
        chance(x, 1, 1, 0, 1, 1);
        chance(x, 1, 1, 10, 1, 1);
    }

    // "in lowest terms"
    private static void badLowestTerms() {
        HeartPins x = Due.laid("p5;t0,0,5;");
        int[] above = {0, 1, 1, 3, 2, 1, 3, 7, 4, 9, 1};
        int[] below = {1, 10, 5, 10, 5, 2, 5, 10, 5, 10, 1};
        for (int tenths = 0; tenths <= 10; tenths++) {
            chance(x, 0, 1, tenths, above[tenths], below[tenths]);
        }
        chance(x, 0, 2, 5, 3, 4);
        chance(x, 0, 2, 2, 9, 25);
        chance(x, 0, 3, 2, 61, 125);
        chance(x, 0, 8, 5, 255, 256);
    }

    // "(as things stand behind the first of them, .., behind the last; not as they stand now)"
    private static void badNotAsTheyStandNow() {
        HeartPins x = Due.laid("p5;t0,2,6;");
        due.is("it breaks now", x.person(0, 3), 1);
        chance(x, 0, 1, 0, 0, 1);
        chance(x, 0, 1, 10, 1, 1);
        chance(x, 0, 8, 0, 0, 1);
        x = Due.laid("p0;t0,2,1;");
        chance(x, 0, 1, 0, 0, 1);
        chance(x, 0, 2, 0, 0, 1);
    }

    private static void badBehindAnyOfThem() {
        HeartPins x = Due.laid("p5;p5;p5;t0,3,5;t1,1,3;t2,2,7;");
        // Odd: 6 behind the first, 5 behind the second.
        chance(x, 0, 1, 0, 1, 1);
        chance(x, 0, 2, 0, 1, 1);
        // Sharp of 3: 5 behind the second, 6 behind the third.
        chance(x, 1, 2, 0, 0, 1);
        chance(x, 1, 3, 0, 1, 1);
        chance(x, 1, 8, 0, 1, 1);
        // Dull of 7: 6 behind the first, 5 behind the second.
        chance(x, 2, 1, 0, 1, 1);
        chance(x, 2, 8, 0, 1, 1);
        x.pass(1);
        chance(x, 0, 1, 0, 0, 1);
        chance(x, 0, 2, 0, 1, 1);
        chance(x, 2, 1, 0, 0, 1);
    }

    // "1 LARGER again (40 at most; ..)"
    private static void badFortyAtMost() {
        HeartPins x = Due.laid("p40;p39;t0,0,20;t1,3,20;h0,20,30;");
        x.stick(0);
        x.stick(1);
        x.pass(20);
        x.feel(0, 0);
        x.feel(1, 1);
        due.is("plain of 40", x.pin(0, 2), 40);
        due.is("odd of 40, even day", x.pin(1, 2), 40);
        chance(x, 0, 8, 10, 0, 1);
        x.pass(1);
        due.is("odd of 40, uneven day", x.pin(1, 2), 40);
        // A bad day leaves it at 40, and it is 1 less then.
        chance(x, 1, 1, 10, 0, 1);
        x = Due.laid("p39;t0,0,19;h0,20,30;");
        x.stick(0);
        x.pass(20);
        x.feel(0, 0);
        due.is("plain of 39", x.pin(0, 2), 39);
        chance(x, 0, 1, 10, 1, 1);
        chance(x, 0, 1, 0, 0, 1);
    }

    // "ahead of all that the DAY does": one of 1 is 2, then 1, and not gone; and the heart is full or not as without it.
    private static void badAheadOfTheDay() {
        HeartPins x = Due.laid("p0;t0,2,1;");
        chance(x, 0, 1, 3, 3, 10);
        chance(x, 0, 2, 3, 3, 10);
        x = Due.laid("p1;t0,2,2;");
        // 2: 2 again behind a bad day, else 1; behind a good one at first no day makes it more than 1.
        chance(x, 0, 1, 3, 3, 10);
        chance(x, 0, 8, 3, 3, 10);
        x = Due.laid("p40;t0,1,20;");
        x.pass(18);
        // 38: 40 behind a bad day, 39 behind a good one, and never more than 40.
        chance(x, 0, 1, 10, 0, 1);
        chance(x, 0, 8, 10, 0, 1);
    }

    // "each PIN that somebody BEARS": none in the heart, shaken out or gone.
    private static void badBorneAlone() {
        HeartPins x = Due.laid("p0;p5;t0,0,5;t1,0,4;h60,9,1;");
        x.stick(0);
        chance(x, 0, 8, 10, 0, 1);
        chance(x, 1, 1, 10, 0, 1);
        chance(x, 1, 2, 10, 1, 1);
        x.pass(1);
        chance(x, 0, 8, 10, 0, 1);
        x = Due.laid("p0;t0,2,1;");
        x.pass(1);
        chance(x, 0, 8, 10, 0, 1);
        // 6 behind the first day, when 1 is gone, and 7 behind the second: it is no less than 0.
        x = Due.laid("p6;t0,2,1;t0,1,5;");
        chance(x, 0, 1, 0, 0, 1);
        chance(x, 0, 2, 0, 1, 1);
        x = Due.laid("p5;t0,0,3;t0,0,3;");
        chance(x, 0, 1, 0, 1, 1);
        x = Due.laid("p7;t0,0,3;t0,0,3;");
        // Two pins: 2 larger by a bad day.
        chance(x, 0, 1, 10, 1, 1);
    }

    private static void badAsMuchIsNotMore() {
        HeartPins x = Due.laid("p6;t0,0,5;");
        chance(x, 0, 1, 10, 0, 1);
        chance(x, 0, 2, 10, 1, 1);
        chance(x, 0, 2, 5, 1, 4);
        x = Due.laid("p60;t0,0,20;t0,0,20;t0,0,20;");
        chance(x, 0, 8, 0, 0, 1);
        chance(x, 0, 1, 10, 1, 1);
    }

    // "A MONTH by z (0 to 9999) of n (1 to 60) DAYS"
    private static void monthNumbers() {
        HeartPins x = new HeartPins();
        int[][] wrong = {{-1, 1, 0}, {10000, 1, 0}, {0, 0, 0}, {0, 61, 0}, {0, 1, -1}, {0, 1, 2}};
        for (int[] n : wrong) {
            due.is("month, one number wrong", x.month(n[0], n[1], n[2]), HeartPins.BAD);
        }
        for (int z : new int[] {0, 9999}) {
            for (int n : new int[] {1, 60}) {
                byHand(Scenes.NEW, z, n);
            }
        }
    }

    private static long draw(long z, long k) {
        long x = 7919 * z + 6151 * k + 1;
        return x * x % 65521;
    }

    /** The same acts and days by hand on another object of that making come to the same. */
    private static void byHand(Scenes.Scene scene, int z, int n) {
        HeartPins x = scene.make().get();
        HeartPins y = scene.make().get();
        for (int k = 0; k < n; k++) {
            long draw = draw(z, k);
            int t = (int) (draw / 8 % scene.pins());
            int p = (int) (draw / 64 % scene.persons());
            if (draw % 8 <= 2) {
                y.stick(t);
            } else if (draw % 8 == 3) {
                y.feel(t, p);
            } else if (draw % 8 == 4) {
                y.bear(t, p);
            }
            y.pass(1);
        }
        int loads = 0;
        for (int p = 0; p < scene.persons(); p++) {
            loads += y.person(p, 1);
        }
        due.is(scene.name() + ": month(" + z + ", " + n + ", 0)", x.month(z, n, 0), loads);
        due.is(scene.name() + ": month(" + z + ", " + n + ", 1)", x.month(z, n, 1), y.heart(3));
    }

    // "if there is a PIN"
    private static void monthOfNoPins() {
        HeartPins x = Due.laid("p60;h0,1,30;");
        for (int z : new int[] {0, 1, 77, 9999}) {
            due.is("no pins: month(" + z + ", 60, 0)", x.month(z, 60, 0), 0);
            due.is("no pins: month(" + z + ", 60, 1)", x.month(z, 60, 1), 0);
        }
        x = Due.laid("p60;t0,0,5;");
        Due.text(x, "p60;");
        x.lay();
        due.is("no pins any more", x.month(5, 60, 0), 0);
    }

    // "if DRAW modulo 8 is 0 to 2, it is STUCK in, if 3, FELT FOR .., if 4, BORNE by that one": by 5 to 7 nothing is done.
    private static void monthByEachDraw() {
        int[] seen = new int[8];
        for (int z = 0; z < 400; z++) {
            int act = (int) (draw(z, 0) % 8);
            seen[act]++;
            HeartPins x = Due.laid("p60;t0,0,7;h3,20,30;");
            due.is("borne, draw " + act + ": month(" + z + ", 1, 0)", x.month(z, 1, 0), act <= 2 ? 0 : 7);
            due.is("borne, draw " + act + ": month(" + z + ", 1, 1)", x.month(z, 1, 1), act <= 2 ? 1 : 0);
            x.stick(0);
            due.is("in the heart, draw " + act + ": month(" + z + ", 1, 0)", x.month(z, 1, 0), act == 3 ? 7 : 0);
            due.is("in the heart, draw " + act + ": month(" + z + ", 1, 1)", x.month(z, 1, 1), act == 3 ? 0 : 1);
        }
        for (int act = 0; act < 8; act++) {
            due.is("draws of " + act + " are among them", seen[act] > 0 ? 1 : 0, 1);
        }
    }

    // "for that of number (DRAW by 8, cut) modulo as many": of one to eight pins, from the first to the last.
    private static void monthOfEachPin() {
        StringBuilder text = new StringBuilder("p60;h60,20,30;");
        for (int many = 1; many <= 8; many++) {
            text.append("t0,0,").append(2 * many).append(';');
            HeartPins x = Due.laid(text.toString());
            for (int z = 0; z < 60; z++) {
                long draw = draw(z, 0);
                int t = (int) (draw / 8 % many);
                int all = many * (many + 1);
                due.is(many + " pins: month(" + z + ", 1, 0)", x.month(z, 1, 0), draw % 8 <= 2 ? all - 2 * (t + 1) : all);
            }
        }
    }

    // "each if it can be": not stuck at the door, nor what is in the heart, shaken out or gone.
    private static void monthIfItCanBe() {
        HeartPins x = Due.laid("p60;t0,0,7;t0,0,7;h3,1,30;");
        x.stick(0);
        x.pass(1);
        for (int z = 0; z < 60; z++) {
            long draw = draw(z, 0);
            boolean felt = draw % 8 == 3 && draw / 8 % 2 == 0;
            due.is("at the door: month(" + z + ", 1, 0)", x.month(z, 1, 0), felt ? 15 : 7);
            due.is("at the door: month(" + z + ", 1, 1)", x.month(z, 1, 1), felt ? 0 : 1);
        }
        x = Due.laid("p60;t0,0,7;t0,2,1;h3,1,2;");
        x.stick(0);
        x.pass(2);
        for (int z = 0; z < 60; z++) {
            due.is("shaken out and gone: month(" + z + ", 60, 0)", x.month(z, 60, 0), 0);
            due.is("shaken out and gone: month(" + z + ", 60, 1)", x.month(z, 60, 1), 0);
        }
    }

    private static final Scenes.Scene UNEVEN = new Scenes.Scene("rich, day 7", 4, 8, () -> {
        HeartPins x = Scenes.RICH.make().get();
        x.pass(1);
        return x;
    });
    private static final Scenes.Scene SHARP = new Scenes.Scene("eight sharp ones of 20", 2, 8,
        () -> Due.laid("p60;p60;" + "t0,1,20;".repeat(8) + "h60,20,30;"));
    private static final Scenes.Scene DULL = new Scenes.Scene("dull and odd ones", 1, 8,
        () -> Due.laid("p60;t0,2,1;t0,2,2;t0,2,3;t0,3,1;t0,3,20;t0,2,20;t0,3,2;t0,2,4;h9,3,11;"));

    // "of n DAYS from now on (nothing changes by it)": from the day it is, as far as it has walked, with what is in it.
    private static void monthFromNowOn() {
        for (int z = 0; z < 10000; z += 401) {
            for (int n : new int[] {1, 2, 3, 7, 24, 59, 60}) {
                byHand(Scenes.RICH, z, n);
                byHand(Scenes.MOST, z, n);
                byHand(Scenes.ONE, z, n);
                byHand(UNEVEN, z, n);
                byHand(SHARP, z, n);
                byHand(DULL, z, n);
            }
        }
        Twins.stayAlike(due, "months", Scenes.RICH.make(), x -> {
            x.month(0, 60, 0);
            x.month(9999, 60, 1);
        });
    }

    // "(x times x) modulo 65521, x 7919 z, 6151 k and 1 together": beyond what an int holds.
    private static void monthByGreatNumbers() {
        HeartPins x = Due.laid("p60;t0,0,1;t0,0,2;t0,0,4;t0,0,8;t0,0,16;h60,20,30;");
        for (int z = 9900; z <= 9999; z++) {
            long draw = draw(z, 0);
            int t = (int) (draw / 8 % 5);
            due.is("month(" + z + ", 1, 0)", x.month(z, 1, 0), draw % 8 <= 2 ? 31 - (1 << t) : 31);
        }
    }

    // "2 at most"
    private static void keptAtMost() {
        HeartPins x = new HeartPins();
        due.is("back, none kept", x.back(), HeartPins.NO);
        due.is("keep", x.keep(), 1);
        due.is("keep", x.keep(), 2);
        due.is("keep, the third", x.keep(), HeartPins.FULL);
        due.is("count(11)", x.count(11), 2);
        due.is("back", x.back(), 1);
        due.is("room again", x.keep(), 2);
        due.is("and no more", x.keep(), HeartPins.FULL);
        due.is("back", x.back(), 1);
        due.is("back", x.back(), 0);
        due.is("back, none left", x.back(), HeartPins.NO);
        due.is("count(11)", x.count(11), 0);
        due.is("keep", x.keep(), 1);
    }

    // "As KEPT last (it is KEPT no more then)"
    private static void keptLastFirst() {
        HeartPins x = new HeartPins();
        x.pass(1);
        x.keep();
        x.pass(1);
        x.keep();
        x.pass(1);
        due.is("a third is not kept", x.keep(), HeartPins.FULL);
        x.pass(1);
        due.is("the last", x.back(), 1);
        due.is("the last: count(2)", x.count(2), 2);
        due.is("the one ahead of it", x.back(), 0);
        due.is("the one ahead of it: count(2)", x.count(2), 1);
        x.pass(4);
        x.keep();
        x.pass(4);
        due.is("one kept anew", x.back(), 0);
        due.is("one kept anew: count(2)", x.count(2), 5);
        x.keep();
        x.pass(1);
        x.back();
        x.pass(1);
        due.is("kept no more", x.back(), HeartPins.NO);
        due.is("so it goes on: count(2)", x.count(2), 6);
    }

    // "KEPT is all as it stands": how large, where, by whom, how far, which day.
    private static void keptAsItStands() {
        Twins.stayAlike(due, "kept, much done, back, kept", () -> {
            HeartPins x = Scenes.RICH.make().get();
            x.back();
            return x;
        }, x -> {
            x.keep();
            x.feel(0, 1);
            x.stick(3);
            x.stick(7);
            x.bear(6, 1);
            x.pass(24);
            x.back();
        });
        HeartPins x = Due.laid("p60;p60;t0,0,5;t1,2,1;h4,9,2;");
        x.bear(0, 1);
        x.stick(0);
        x.keep();
        x.pass(2);
        due.is("shaken out", x.pin(0, 3), 2);
        due.is("gone", x.pin(1, 3), 3);
        x.back();
        due.is("in the heart", x.pin(0, 3), 1);
        due.is("as large", x.pin(0, 2), 5);
        due.is("not gone", x.pin(1, 2), 1);
        due.is("day 0", x.count(2), 0);
        x.pass(1);
        x.keep();
        x.pass(1);
        x.back();
        due.is("walked", x.heart(3), 1);
        due.is("day 1", x.count(2), 1);
    }

    // "back(), behind which nothing can be UNDONE": neither what was done since, nor what was done ahead of it.
    private static void backBehindWhichNothingIsUndone() {
        HeartPins x = new HeartPins();
        x.stick(0);
        x.pass(1);
        x.keep();
        due.is("kept, they can be undone still", x.count(10), 2);
        x.pass(1);
        x.back();
        due.is("back: count(10)", x.count(10), 0);
        due.is("back: undo()", x.undo(), HeartPins.NO);
        due.is("back: count(2)", x.count(2), 1);
        x.pass(2);
        due.is("what is done then can be", x.undo(), 0);
        due.is("undone to where it was", x.count(2), 1);
        due.is("and no farther", x.undo(), HeartPins.NO);
        for (int i = 1; i <= 9; i++) {
            x.pass(1);
            due.is("eight again", x.count(10), Math.min(i, 8));
        }
    }

    // What is undone leaves what is kept as it was, and keeping leaves what can be undone.
    private static void keptAndUndone() {
        HeartPins x = new HeartPins();
        x.pass(1);
        x.keep();
        due.is("undo ahead of what is kept", x.undo(), 0);
        due.is("undone: count(2)", x.count(2), 0);
        due.is("kept still", x.count(11), 1);
        due.is("back", x.back(), 0);
        due.is("as it was kept: count(2)", x.count(2), 1);
        due.is("nothing to be undone", x.undo(), HeartPins.NO);
    }

    // "but what is SEEN, MARKED and THE TEXT (these stay by back() ..)"
    private static void keptLeavesTextAndNotes() {
        HeartPins x = Due.laid("p60;t0,0,5;");
        x.see(0, 0, 5);
        x.mark(5);
        x.keep();
        x.see(0, 0, 4);
        x.mark(4);
        x.mark(3);
        x.write('p');
        x.write('9');
        x.write(';');
        x.back();
        due.is("seen: count(8)", x.count(8), 2);
        due.is("seen: kinds(0)", x.kinds(0), 0);
        due.is("marked: count(9)", x.count(9), 3);
        due.is("written: count(12)", x.count(12), 14);
        due.is("written: lay()", x.lay(), 2);
        x.see(0, 0, 4);
        x.mark(4);
        x.keep();
        x.forget();
        x.wipe();
        x.back();
        due.is("nothing seen: count(8)", x.count(8), 0);
        due.is("nothing marked: count(9)", x.count(9), 0);
        due.is("nothing written: count(12)", x.count(12), 0);
        due.is("nothing seen: kinds(0)", x.kinds(0), 15);
    }
}
