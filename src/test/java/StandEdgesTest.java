/** The boundary cases of promises 6, 7, 8 and 31: LOAD, BREAKS, FULL, AT THE DOOR, who bears what, how many; each a test. */
public final class StandEdgesTest {
    private static final Due due = new Due("StandEdgesTest");

    public static void main(String[] args) {
        asMuchIsNotMore();
        loads();
        pinsAsBits();
        whoBearsIt();
        heartFull();
        heartAtTheDoor();
        personsWhoBreak();
        pinsByPlace();
        countedAtLeastAndAtMost();
        due.end();
    }

    // "it BREAKS, if that is more than it can BEAR"
    private static void asMuchIsNotMore() {
        int[][] cases = {{0, 0}, {0, 1}, {1, 1}, {9, 10}, {10, 10}, {11, 10}};
        for (int[] one : cases) {
            String text = "p" + one[1] + ";" + (one[0] > 0 ? "t0,0," + one[0] + ";" : "");
            HeartPins x = Due.laid(text);
            int broken = one[0] > one[1] ? 1 : 0;
            due.is(text + " person(0, 3)", x.person(0, 3), broken);
            due.is(text + " count(7)", x.count(7), broken);
        }
        HeartPins x = Due.laid("p0;t0,0,1;");
        due.is("1 by 0", x.person(0, 3), 1);
        x = Due.laid("p60;t0,0,20;t0,0,20;t0,0,20;");
        due.is("60 by 60", x.person(0, 3), 0);
        x = Due.laid("p60;t0,0,20;t0,0,20;t0,0,20;t0,0,1;");
        due.is("61 by 60", x.person(0, 3), 1);
        due.is("61 by 60: LOAD", x.person(0, 1), 61);
        x = Due.laid("p59;t0,0,20;t0,0,20;t0,0,20;");
        due.is("60 by 59", x.person(0, 3), 1);
    }

    // "LOAD of a PERSON is how LARGE all PINS are together that it BEARS": 0 to 320, and no other's, none in the heart.
    private static void loads() {
        HeartPins x = Due.laid("p1;p1;" + "t0,1,20;".repeat(8));
        due.is("nothing borne", x.person(1, 1), 0);
        due.is("all borne", x.person(0, 1), 160);
        x.pass(20);
        due.is("all borne, 40 each", x.person(0, 1), 320);
        x.bear(7, 1);
        due.is("all but one", x.person(0, 1), 280);
        due.is("one", x.person(1, 1), 40);
        x.stick(0);
        due.is("one in the heart", x.person(0, 1), 240);
        x.feel(0, 1);
        due.is("felt for by the other", x.person(1, 1), 80);
        due.is("felt for by the other", x.person(0, 1), 240);
    }

    // "PINS that it BEARS (2; bits)"
    private static void pinsAsBits() {
        HeartPins x = Due.laid("p1;p1;p1;p1;p1;" + "t0,0,1;".repeat(8));
        due.is("all eight", x.person(0, 2), 255);
        due.is("none", x.person(4, 2), 0);
        for (int t = 0; t < 8; t++) {
            x.bear(t, 4);
            due.is("the fifth bears up to " + t, x.person(4, 2), (1 << t + 1) - 1);
            due.is("the first bears what is left", x.person(0, 2), 255 - ((1 << t + 1) - 1));
        }
        x.stick(7);
        due.is("without the one in the heart", x.person(4, 2), 127);
    }

    // "0 BORNE, 1 in the HEART, 2 SHAKEN OUT, 3 GONE (3), who BEARS it (4; NONE)"
    private static void whoBearsIt() {
        HeartPins x = Due.laid("p60;p60;p60;p60;p60;t4,0,7;t0,0,6;t2,2,2;t4,0,5;h60,9,2;");
        x.bear(1, 4);
        x.stick(3);
        x.pass(2);
        x.stick(0);
        int[][] want = {{4, 0, 7, 1, -4}, {0, 0, 6, 0, 4}, {2, 2, 0, 3, -4}, {4, 0, 5, 2, -4}};
        for (int t = 0; t < 4; t++) {
            for (int what = 0; what < 5; what++) {
                due.is("pin(" + t + ", " + what + ")", x.pin(t, what), want[t][what]);
            }
        }
        x.feel(0, 0);
        due.is("felt for: pin(0, 3)", x.pin(0, 3), 0);
        due.is("felt for by the first: pin(0, 4)", x.pin(0, 4), 0);
        due.is("felt for: whose it was told", x.pin(0, 0), 4);
    }

    // "The HEART is FULL, if all PINS in it are LARGER together than its ROOM"
    private static void heartFull() {
        HeartPins x = Due.laid("p1;t0,0,1;h0,9,9;");
        due.is("nothing, room 0", x.heart(5), 0);
        due.is("nothing, room 0: heart(4)", x.heart(4), 0);
        x.stick(0);
        due.is("1, room 0", x.heart(5), 1);
        x = Due.laid("p1;t0,0,20;t0,0,20;t0,0,20;t0,0,1;h60,9,9;");
        due.is("nothing, room 60", x.heart(5), 0);
        x.stick(0);
        x.stick(1);
        due.is("40, room 60", x.heart(5), 0);
        x.stick(2);
        due.is("60, room 60", x.heart(5), 0);
        due.is("60", x.heart(4), 60);
        x.stick(3);
        due.is("61, room 60", x.heart(5), 1);
        due.is("61", x.heart(4), 61);
        x.feel(3, 0);
        due.is("60 again", x.heart(5), 0);
        x = Due.laid("p1;t0,0,13;");
        x.stick(0);
        due.is("13 without a heart told: room 12", x.heart(5), 1);
        x = Due.laid("p1;t0,0,12;");
        x.stick(0);
        due.is("12 without a heart told: room 12", x.heart(5), 0);
    }

    // "It is AT THE DOOR, if it has WALKED D"
    private static void heartAtTheDoor() {
        for (int door : new int[] {1, 2, 5, 19, 20}) {
            HeartPins x = Due.laid("p60;t0,0,20;h0," + door + ",30;");
            due.is("door " + door + ", walked 0", x.heart(6), 0);
            x.stick(0);
            due.is("door " + door + ", full but walked 0", x.heart(6), 0);
            for (int day = 1; day <= door; day++) {
                x.pass(1);
                due.is("door " + door + ", walked", x.heart(3), day);
                due.is("door " + door + ", walked " + day, x.heart(6), day == door ? 1 : 0);
            }
            x.pass(1);
            due.is("door " + door + ", no farther", x.heart(3), door);
            due.is("door " + door + ", still there", x.heart(6), 1);
            x.feel(0, 0);
            x.pass(1);
            due.is("door " + door + ", 1 back", x.heart(6), 0);
        }
        HeartPins x = Due.laid("p60;t0,0,20;");
        x.stick(0);
        x.pass(4);
        due.is("without a heart told, walked 4", x.heart(6), 0);
        x.pass(1);
        due.is("without a heart told, walked 5", x.heart(6), 1);
    }

    // "7 PERSONS who BREAK": none to five.
    private static void personsWhoBreak() {
        HeartPins x = Due.laid("p4;p4;p4;p4;p4;t0,0,5;t1,0,5;t2,0,5;t3,0,5;t4,0,5;");
        due.is("five break", x.count(7), 5);
        for (int t = 4; t >= 0; t--) {
            x.stick(t);
            due.is("the first " + t + " break", x.count(7), t);
            due.is("person(" + t + ", 3)", x.person(t, 3), 0);
        }
    }

    // "3 PINS that are BORNE, 4 in the HEART, 5 SHAKEN OUT, 6 GONE": 0 to 8, together all there are.
    private static void pinsByPlace() {
        HeartPins x = Due.laid("p60;" + "t0,2,2;".repeat(8) + "h60,9,1;");
        for (int t = 0; t < 8; t++) {
            due.is("borne", x.count(3), 8 - t);
            due.is("in the heart", x.count(4), t);
            x.stick(t);
        }
        due.is("none borne", x.count(3), 0);
        due.is("eight in the heart", x.count(4), 8);
        due.is("none shaken out", x.count(5), 0);
        x.pass(1);
        due.is("none in the heart", x.count(4), 0);
        due.is("eight shaken out", x.count(5), 8);
        due.is("none gone", x.count(6), 0);
        x.undo();
        due.is("eight in the heart again", x.count(4), 8);
        for (int t = 0; t < 8; t++) {
            x.feel(t, 0);
        }
        due.is("eight borne", x.count(3), 8);
        x.pass(2);
        due.is("eight gone", x.count(6), 8);
        due.is("none borne, all gone", x.count(3), 0);
        due.is("pins all the same", x.count(1), 8);
        due.is("load of nothing", x.person(0, 1), 0);
        due.is("bits of nothing", x.person(0, 2), 0);
    }

    // Each of what is counted, at its least and at its most.
    private static void countedAtLeastAndAtMost() {
        HeartPins x = Due.laid("p0;");
        x.wipe();
        int[] least = {1, 0, 0, 0, 0, 0, 0, 0, 0, 0, 0, 0, 0};
        for (int what = 0; what < 13; what++) {
            due.is("least: count(" + what + ")", x.count(what), least[what]);
        }
        x = Due.laid("p0;p0;p0;p0;p0;t0,0,1;t1,0,1;t2,0,1;t3,0,1;t4,0,1;t4,0,1;t4,0,1;t4,0,1;");
        for (int i = 0; i < 9; i++) {
            x.see(0, 0, 0);
            x.mark(0);
            x.pass(1);
            x.keep();
        }
        x.wipe();
        for (int i = 0; i < 201; i++) {
            x.write(32);
        }
        int[] most = {5, 8, 9, 8, 0, 0, 0, 5, 8, 8, 8, 2, 200};
        for (int what = 0; what < 13; what++) {
            due.is("most: count(" + what + ")", x.count(what), most[what]);
        }
    }
}
