/** The boundary cases of a DAY: 40 at most, GONE, FULL as it was ahead of it, the walk, SHAKEN OUT; each sentence a test. */
public final class DayEdgesTest {
    private static final Due due = new Due("DayEdgesTest");

    public static void main(String[] args) {
        plainStays();
        sharpFortyAtMost();
        dullToNothing();
        oddByTheNumberOfTheDay();
        oddFortyAtMost();
        fullPlainFortyAtMost();
        fullSharpFortyAtMost();
        fullOddFortyAtMost();
        fullDull();
        notFullNoMore();
        onlyInTheHeart();
        fullAheadOfTheDay();
        goneNowhere();
        goneInTheHeart();
        goneNotShakenOut();
        goneForGood();
        walksAtMost();
        walksBackAtLeast();
        walksAsAheadOfTheDay();
        shakenOutOnItsDays();
        shakenOutEachDay();
        shakenOutEachThirty();
        shakenOutWalkedNothing();
        shakenOutStays();
        shakenOutBehindTheRest();
        due.end();
    }

    /** Each number of days goes by, then the pin is as large as that. */
    private static void sizes(HeartPins x, int t, int... want) {
        for (int i = 0; i < want.length; i++) {
            x.pass(1);
            due.is("pin " + t + " behind " + (i + 1) + " days, day " + x.count(2), x.pin(t, 2), want[i]);
        }
    }

    /** One pin of a kind that grew to a size in a full heart or by itself and is borne then, on the day of that number. */
    private static HeartPins grown(int kind, int told, int days, boolean inHeart) {
        HeartPins x = Due.laid("p60;t0," + kind + "," + told + ";h0,20,30;");
        if (inHeart) {
            x.stick(0);
        }
        x.pass(days);
        return x;
    }

    private static void plainStays() {
        sizes(grown(0, 1, 1, false), 0, 1, 1, 1);
        sizes(grown(0, 20, 1, false), 0, 20, 20);
        HeartPins x = grown(0, 20, 20, true);
        x.feel(0, 0);
        sizes(x, 0, 40, 40, 40);
    }

    // "a SHARP one is 1 LARGER (40 at most)"
    private static void sharpFortyAtMost() {
        sizes(Due.laid("p1;t0,1,1;"), 0, 2, 3, 4);
        HeartPins x = grown(1, 20, 18, false);
        due.is("38", x.pin(0, 2), 38);
        sizes(x, 0, 39, 40, 40, 40);
        x = grown(1, 19, 20, false);
        due.is("39 on an even day", x.pin(0, 2), 39);
        sizes(x, 0, 40, 40, 40);
        x = grown(1, 20, 24, false);
        due.is("24 days at one time", x.pin(0, 2), 40);
    }

    // "a DULL one 1 less .. what is as LARGE as 0 or less is GONE (0)"
    private static void dullToNothing() {
        sizes(Due.laid("p1;t0,2,3;"), 0, 2, 1, 0, 0, 0);
        HeartPins x = Due.laid("p1;t0,2,20;");
        sizes(x, 0, 19, 18);
        x.pass(17);
        due.is("1 is still there", x.pin(0, 2), 1);
        due.is("1 is borne", x.pin(0, 3), 0);
        x.pass(1);
        due.is("0 is gone", x.pin(0, 3), 3);
        due.is("0", x.pin(0, 2), 0);
    }

    // "an ODD one 1 LARGER on even DAYS (by the number of the DAY that goes by, 0 even ..), 1 less on uneven ones"
    private static void oddByTheNumberOfTheDay() {
        sizes(Due.laid("p1;t0,3,1;"), 0, 2, 1, 2, 1, 2, 1, 2);
        sizes(Due.laid("p1;t0,3,20;"), 0, 21, 20, 21, 20);
        HeartPins x = Due.laid("p1;t0,3,5;");
        x.pass(2);
        due.is("days 0 and 1", x.pin(0, 2), 5);
        x.pass(3);
        due.is("days 2 to 4", x.pin(0, 2), 6);
        x.pass(24);
        due.is("24 days from an uneven one", x.pin(0, 2), 6);
        x.pass(23);
        due.is("23 days from an uneven one", x.pin(0, 2), 5);
        x.undo();
        x.undo();
        x.pass(1);
        due.is("by the number of the day, undone too", x.pin(0, 2), 5);
    }

    // "(.. 40 at most), 1 less on uneven ones": an odd one of 39 or 40 that is borne.
    private static void oddFortyAtMost() {
        HeartPins x = grown(3, 19, 20, true);
        due.is("39, day 20", x.pin(0, 2), 39);
        x.feel(0, 0);
        sizes(x, 0, 40, 39, 40, 39);
        x = grown(3, 20, 20, true);
        due.is("40, day 20", x.pin(0, 2), 40);
        x.feel(0, 0);
        sizes(x, 0, 40, 39, 40, 39);
    }

    // "one in the HEART, while this is FULL .., 1 LARGER again (40 at most)"
    private static void fullPlainFortyAtMost() {
        HeartPins x = grown(0, 20, 18, true);
        due.is("38", x.pin(0, 2), 38);
        sizes(x, 0, 39, 40, 40, 40);
        sizes(grown(0, 1, 1, true), 0, 3, 4, 5);
    }

    // A sharp one in a full heart: 2 larger, from 38 to 40, from 39 to 40, from 40 to 40.
    private static void fullSharpFortyAtMost() {
        HeartPins x = grown(1, 16, 11, true);
        due.is("38", x.pin(0, 2), 38);
        sizes(x, 0, 40, 40, 40);
        x = grown(1, 19, 10, true);
        due.is("39", x.pin(0, 2), 39);
        sizes(x, 0, 40, 40);
        sizes(grown(1, 1, 1, true), 0, 5, 7);
    }

    // An odd one in a full heart: 2 larger on even days, as large on uneven ones.
    private static void fullOddFortyAtMost() {
        sizes(Due.laid("p60;t0,3,5;h0,20,30;"), 0, 6, 5);
        HeartPins x = grown(3, 18, 20, true);
        due.is("38, even day", x.pin(0, 2), 38);
        sizes(x, 0, 40, 40, 40, 40);
        x = grown(3, 19, 20, true);
        due.is("39, even day", x.pin(0, 2), 39);
        sizes(x, 0, 40, 40, 40);
        x = grown(3, 19, 21, true);
        due.is("40, uneven day", x.pin(0, 2), 40);
        sizes(x, 0, 40);
        x = grown(3, 19, 19, true);
        due.is("39, uneven day", x.pin(0, 2), 39);
        sizes(x, 0, 39, 40);
        x = Due.laid("p60;t0,3,1;h0,20,30;");
        x.stick(0);
        sizes(x, 0, 3, 3, 5, 5);
    }

    // A dull one in a full heart: 1 less, 1 larger again; one of 1 is 0 only between the two, so it is not gone.
    private static void fullDull() {
        HeartPins x = Due.laid("p60;t0,2,1;t0,2,20;h0,20,30;");
        x.stick(0);
        x.stick(1);
        sizes(x, 0, 1, 1, 1);
        due.is("20 behind 3 days", x.pin(1, 2), 20);
        due.is("1 is in the heart still", x.pin(0, 3), 1);
        x.feel(1, 0);
        x.pass(1);
        due.is("full of 1, room 0: as large", x.pin(0, 2), 1);
        due.is("felt for: 1 less", x.pin(1, 2), 19);
    }

    // In a heart that is not full each pin changes as if borne.
    private static void notFullNoMore() {
        HeartPins x = Due.laid("p60;t0,0,5;t0,1,5;t0,2,5;t0,3,5;h60,20,30;");
        for (int t = 0; t < 4; t++) {
            x.stick(t);
        }
        int[][] want = {{5, 6, 4, 6}, {5, 7, 3, 5}, {5, 8, 2, 6}};
        for (int[] sizes : want) {
            x.pass(1);
            for (int t = 0; t < 4; t++) {
                due.is("not full, day " + x.count(2) + ": pin(" + t + ", 2)", x.pin(t, 2), sizes[t]);
            }
        }
    }

    // "one in the HEART": none that is borne, shaken out or gone grows by its being full.
    private static void onlyInTheHeart() {
        HeartPins x = Due.laid("p60;t0,0,5;t0,0,6;t0,2,1;t0,0,9;h3,20,2;");
        x.stick(1);
        x.pass(2);
        due.is("shaken out with 8", x.pin(1, 2), 8);
        x.stick(3);
        due.is("full", x.heart(5), 1);
        x.pass(1);
        due.is("borne: plain", x.pin(0, 2), 5);
        due.is("shaken out", x.pin(1, 2), 8);
        due.is("gone", x.pin(2, 2), 0);
        due.is("gone", x.pin(2, 3), 3);
        due.is("in the heart", x.pin(3, 2), 10);
    }

    // "(as it was ahead of the DAY)": what it comes to on the day does not count for it.
    private static void fullAheadOfTheDay() {
        HeartPins x = Due.laid("p60;t0,1,5;t0,0,5;h10,20,30;");
        x.stick(0);
        x.stick(1);
        x.pass(1);
        due.is("as much as room ahead of it, more behind it: sharp", x.pin(0, 2), 6);
        due.is("as much as room ahead of it, more behind it: plain", x.pin(1, 2), 5);
        due.is("full now", x.heart(5), 1);
        x.pass(1);
        due.is("full ahead of it: sharp", x.pin(0, 2), 8);
        due.is("full ahead of it: plain", x.pin(1, 2), 6);
        // Dull ones first, so that the sum is no more than the room when the last one comes.
        x = Due.laid("p60;t0,2,4;t0,2,4;t0,0,3;h10,20,30;");
        for (int t = 0; t < 3; t++) {
            x.stick(t);
        }
        x.pass(1);
        int[] want = {4, 4, 4};
        for (int t = 0; t < 3; t++) {
            due.is("11 and room 10 ahead of it: pin(" + t + ", 2)", x.pin(t, 2), want[t]);
        }
    }

    // "what is as LARGE as 0 or less is GONE (0), nowhere"
    private static void goneNowhere() {
        HeartPins x = Due.laid("p1;t0,2,1;t0,0,1;");
        due.is("breaks", x.person(0, 3), 1);
        x.pass(1);
        due.is("gone: as large as 0", x.pin(0, 2), 0);
        due.is("gone: 3", x.pin(0, 3), 3);
        due.is("gone: borne by none", x.pin(0, 4), HeartPins.NONE);
        due.is("gone: whose it was told", x.pin(0, 0), 0);
        due.is("gone: its kind", x.pin(0, 1), 2);
        due.is("gone: no load", x.person(0, 1), 1);
        due.is("gone: no bit", x.person(0, 2), 2);
        due.is("gone: breaks no more", x.person(0, 3), 0);
        due.is("gone: count(3)", x.count(3), 1);
        due.is("gone: count(6)", x.count(6), 1);
        due.is("gone: stick(0)", x.stick(0), HeartPins.NO);
        due.is("gone: feel(0, 0)", x.feel(0, 0), HeartPins.NO);
        due.is("gone: bear(0, 0)", x.bear(0, 0), HeartPins.NO);
    }

    private static void goneInTheHeart() {
        HeartPins x = Due.laid("p60;t0,2,1;t0,2,2;t0,0,9;h12,20,30;");
        for (int t = 0; t < 3; t++) {
            x.stick(t);
        }
        due.is("12, room 12", x.heart(5), 0);
        x.pass(1);
        due.is("1 is gone", x.pin(0, 3), 3);
        due.is("2 is not", x.pin(1, 3), 1);
        due.is("1 and 9", x.heart(4), 10);
        due.is("in the heart", x.count(4), 2);
        x.pass(1);
        due.is("9", x.heart(4), 9);
        due.is("in the heart", x.count(4), 1);
        due.is("gone", x.count(6), 2);
    }

    // Gone on the very day it would be shaken out.
    private static void goneNotShakenOut() {
        HeartPins x = Due.laid("p60;t0,2,1;t0,2,2;t0,0,3;h60,20,1;");
        for (int t = 0; t < 3; t++) {
            x.stick(t);
        }
        x.pass(1);
        due.is("1: gone", x.pin(0, 3), 3);
        due.is("2: shaken out", x.pin(1, 3), 2);
        due.is("2: as large as 1", x.pin(1, 2), 1);
        due.is("count(5)", x.count(5), 2);
        due.is("count(6)", x.count(6), 1);
        x.pass(3);
        due.is("shaken out, less no more", x.pin(1, 2), 1);
        due.is("shaken out, not gone", x.pin(1, 3), 2);
    }

    private static void goneForGood() {
        HeartPins x = Due.laid("p60;t0,2,1;t0,0,9;h3,20,30;");
        x.stick(1);
        sizes(x, 0, 0, 0, 0);
        x.pass(24);
        due.is("gone for good", x.pin(0, 3), 3);
        due.is("0 for good", x.pin(0, 2), 0);
        due.is("shaken out no more", x.count(5), 0);
        due.is("gone alone", x.count(6), 1);
    }

    // "the HEART WALKS 1 (D at most), if it was FULL ahead of the DAY"
    private static void walksAtMost() {
        for (int door : new int[] {1, 2, 20}) {
            HeartPins x = Due.laid("p60;t0,0,1;h0," + door + ",30;");
            x.stick(0);
            for (int day = 1; day <= door + 3; day++) {
                x.pass(1);
                due.is("door " + door + ", day " + day, x.heart(3), Math.min(day, door));
            }
        }
    }

    // "else 1 back (0 at least)"
    private static void walksBackAtLeast() {
        HeartPins x = Due.laid("p60;t0,0,1;h0,9,30;");
        x.pass(1);
        due.is("0: no farther back", x.heart(3), 0);
        x.stick(0);
        x.pass(2);
        x.feel(0, 0);
        due.is("2", x.heart(3), 2);
        x.pass(1);
        due.is("2: 1 back", x.heart(3), 1);
        x.pass(1);
        due.is("1: 1 back", x.heart(3), 0);
        x.pass(1);
        due.is("0: no farther back", x.heart(3), 0);
        x.stick(0);
        x.pass(1);
        due.is("on again", x.heart(3), 1);
        x = Due.laid("p60;t0,0,5;t0,0,2;h4,9,30;");
        x.stick(0);
        x.stick(1);
        x.pass(2);
        x.feel(0, 0);
        due.is("as much in it as room", x.heart(4), 4);
        due.is("2", x.heart(3), 2);
        x.pass(1);
        due.is("not empty, but not full: 1 back", x.heart(3), 1);
    }

    private static void walksAsAheadOfTheDay() {
        HeartPins x = Due.laid("p60;t0,1,10;h10,9,30;");
        x.stick(0);
        x.pass(1);
        due.is("full behind the day, not ahead of it", x.heart(3), 0);
        x.pass(1);
        due.is("full ahead of the day", x.heart(3), 1);
        x = Due.laid("p60;t0,2,11;h10,9,30;");
        x.stick(0);
        x.pass(1);
        due.is("11 ahead of the day, room 10", x.heart(3), 1);
    }

    // "if its number is Q, twice Q, three times Q, .., all that is in the HEART is SHAKEN OUT"
    private static void shakenOutOnItsDays() {
        for (int q : new int[] {1, 2, 3, 7, 14, 29, 30}) {
            HeartPins x = Due.laid("p60;t0,0,5;t0,0,5;t0,0,5;h60,20," + q + ";");
            int shaken = 0;
            for (int day = 1; day <= 3 * q; day++) {
                if (x.count(4) == 0) {
                    x.stick(shaken);
                }
                x.pass(1);
                shaken += day % q == 0 ? 1 : 0;
                due.is("each " + q + ", day " + day + ": count(5)", x.count(5), shaken);
                due.is("each " + q + ", day " + day + ": count(4)", x.count(4), day % q == 0 ? 0 : 1);
            }
        }
        HeartPins x = Due.laid("p60;t0,0,5;t0,0,5;");
        x.stick(0);
        x.stick(1);
        x.pass(13);
        due.is("without a heart told, day 13", x.count(5), 0);
        x.pass(1);
        due.is("without a heart told, day 14: all", x.count(5), 2);
    }

    private static void shakenOutEachDay() {
        HeartPins x = Due.laid("p60;t0,1,5;t0,1,5;h0,1,1;");
        x.stick(0);
        x.pass(1);
        due.is("day 1", x.pin(0, 3), 2);
        due.is("day 1: larger by the full heart, too", x.pin(0, 2), 7);
        due.is("day 1: one borne is not", x.pin(1, 3), 0);
        due.is("day 1: walked", x.heart(3), 0);
        x.stick(1);
        x.pass(24);
        due.is("day 25", x.pin(1, 3), 2);
        due.is("day 25: as on day 2", x.pin(1, 2), 8);
    }

    private static void shakenOutEachThirty() {
        HeartPins x = Due.laid("p60;t0,0,5;t0,0,5;h60,20,30;");
        x.stick(0);
        x.pass(24);
        x.pass(5);
        due.is("day 29", x.pin(0, 3), 1);
        x.pass(1);
        due.is("day 30", x.pin(0, 3), 2);
        x.stick(1);
        x.pass(24);
        x.pass(5);
        due.is("day 59", x.pin(1, 3), 1);
        x.pass(1);
        due.is("day 60", x.pin(1, 3), 2);
    }

    // "and it has WALKED 0": full or not, empty or not, at the door or not.
    private static void shakenOutWalkedNothing() {
        HeartPins x = Due.laid("p60;t0,0,5;h0,9,4;");
        x.stick(0);
        x.pass(3);
        due.is("walked 3", x.heart(3), 3);
        x.pass(1);
        due.is("full: walked 0", x.heart(3), 0);
        x = Due.laid("p60;t0,0,5;h0,9,4;");
        x.stick(0);
        x.pass(3);
        x.feel(0, 0);
        x.pass(1);
        due.is("empty: walked 0, not 1 back", x.heart(3), 0);
        x = Due.laid("p60;t0,0,5;h0,2,4;");
        x.stick(0);
        x.pass(3);
        due.is("at the door", x.heart(6), 1);
        x.pass(1);
        due.is("no more at the door", x.heart(6), 0);
        due.is("walked 0", x.heart(3), 0);
        x.pass(1);
        due.is("walked 0 still", x.heart(3), 0);
    }

    // What is shaken out does not change, whichever kind, and is nowhere to be stuck, felt for or borne.
    private static void shakenOutStays() {
        HeartPins x = Due.laid("p60;t0,0,5;t0,1,5;t0,2,5;t0,3,5;h60,20,1;");
        for (int t = 0; t < 4; t++) {
            x.stick(t);
        }
        x.pass(1);
        int[] want = {5, 6, 4, 6};
        for (int days = 0; days < 3; days++) {
            for (int t = 0; t < 4; t++) {
                due.is("shaken out, " + days + " days later: pin(" + t + ", 2)", x.pin(t, 2), want[t]);
            }
            x.pass(1);
        }
        x.pass(24);
        due.is("shaken out for good", x.count(5), 4);
        due.is("no load", x.person(0, 1), 0);
        due.is("nothing in the heart", x.heart(4), 0);
    }

    // First the pins change and the heart walks, then it is shaken out; one stuck in then is there until the next time.
    private static void shakenOutBehindTheRest() {
        HeartPins x = Due.laid("p60;t0,0,5;t0,0,6;h4,20,3;");
        x.stick(0);
        x.pass(3);
        due.is("it grew on the third day, too", x.pin(0, 2), 8);
        x.stick(1);
        due.is("stuck in on day 3", x.pin(1, 3), 1);
        x.pass(2);
        due.is("there on day 5", x.pin(1, 3), 1);
        due.is("walked again", x.heart(3), 2);
        x.pass(1);
        due.is("shaken out on day 6", x.pin(1, 3), 2);
        due.is("it grew three times", x.pin(1, 2), 9);
    }
}
