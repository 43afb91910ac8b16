/** Promises 9 to 13: STUCK, FELT FOR, BORNE by another one, DAYS, UNDONE. */
public final class ActsTest {
    private static final Due due = new Due("ActsTest");

    public static void main(String[] args) {
        sticking();
        feeling();
        bearing();
        kindsOnDays();
        goneStaysGone();
        fullHeart();
        caps();
        walking();
        shaking();
        undoing();
        due.end();
    }

    private static void sticking() {
        HeartPins x = new HeartPins();
        due.is("stick(-1)", x.stick(-1), HeartPins.BAD);
        due.is("stick(8)", x.stick(8), HeartPins.BAD);
        due.is("stick(0)", x.stick(0), 5);
        due.is("stick(0) again", x.stick(0), HeartPins.NO);
        due.is("stick(7)", x.stick(7), 9);
        due.is("count(10): NO is nothing to undo", x.count(10), 2);
        x = Due.laid("p60;t0,0,9;t0,0,1;t0,2,1;h8,1,30;");
        x.stick(0);
        x.pass(1);
        due.is("at the door", x.heart(6), 1);
        due.is("stick at the door", x.stick(1), HeartPins.NO);
        due.is("stick at the door, no such pin", x.stick(3), HeartPins.BAD);
        due.is("stick of one gone", x.stick(2), HeartPins.NO);
        x.feel(0, 0);
        x.pass(1);
        due.is("from the door: stick", x.stick(1), 1);
        x = Due.laid("p60;t0,0,9;h8,9,1;");
        x.stick(0);
        x.pass(1);
        due.is("stick of one shaken out", x.stick(0), HeartPins.NO);
    }

    private static void feeling() {
        HeartPins x = new HeartPins();
        due.is("feel: nobody stuck it", x.feel(0, 0), HeartPins.NO);
        x.stick(0);
        due.is("feel(0, 4)", x.feel(0, 4), HeartPins.BAD);
        due.is("feel(0, -1)", x.feel(0, -1), HeartPins.BAD);
        due.is("feel(8, 0)", x.feel(8, 0), HeartPins.BAD);
        due.is("feel(-1, 0)", x.feel(-1, 0), HeartPins.BAD);
        due.is("feel(1, 9): BAD ahead of NO", x.feel(1, 9), HeartPins.BAD);
        due.is("feel(0, 2)", x.feel(0, 2), 13);
        due.is("felt for: pin(0, 4)", x.pin(0, 4), 2);
        due.is("felt for: heart(4)", x.heart(4), 0);
        due.is("feel again", x.feel(0, 2), HeartPins.NO);
        x = Due.laid("p60;p9;t0,0,9;h8,1,30;");
        x.stick(0);
        x.pass(1);
        due.is("feel at the door", x.feel(0, 1), 10);
        due.is("it breaks", x.person(1, 3), 1);
        x = Due.laid("p60;t0,0,9;t0,2,1;h8,9,1;");
        x.stick(0);
        x.pass(1);
        due.is("feel for one shaken out", x.feel(0, 0), HeartPins.NO);
        due.is("feel for one gone", x.feel(1, 0), HeartPins.NO);
    }

    private static void bearing() {
        HeartPins x = new HeartPins();
        due.is("bear(0, 0): that one does", x.bear(0, 0), HeartPins.NO);
        due.is("bear(0, 4)", x.bear(0, 4), HeartPins.BAD);
        due.is("bear(0, -1)", x.bear(0, -1), HeartPins.BAD);
        due.is("bear(8, 0)", x.bear(8, 0), HeartPins.BAD);
        due.is("bear(-1, 0)", x.bear(-1, 0), HeartPins.BAD);
        due.is("bear(0, 3)", x.bear(0, 3), 0);
        due.is("bear(0, 1)", x.bear(0, 1), 3);
        due.is("bear(0, 1) again", x.bear(0, 1), HeartPins.NO);
        due.is("person(1, 1)", x.person(1, 1), 18);
        x.stick(0);
        due.is("bear one in the heart", x.bear(0, 2), HeartPins.NO);
        due.is("BAD ahead of NO", x.bear(0, 5), HeartPins.BAD);
        x = Due.laid("p60;p9;t0,0,9;t0,2,1;h8,9,1;");
        x.stick(0);
        x.pass(1);
        due.is("bear one shaken out", x.bear(0, 1), HeartPins.NO);
        due.is("bear one gone", x.bear(1, 1), HeartPins.NO);
    }

    private static void kindsOnDays() {
        HeartPins x = Due.laid("p60;t0,0,5;t0,1,5;t0,2,5;t0,3,5;");
        due.is("pass(0)", x.pass(0), HeartPins.BAD);
        due.is("pass(25)", x.pass(25), HeartPins.BAD);
        due.is("pass(-1)", x.pass(-1), HeartPins.BAD);
        int[][] want = {{5, 6, 4, 6}, {5, 7, 3, 5}, {5, 8, 2, 6}, {5, 9, 1, 5}, {5, 10, 0, 6}, {5, 11, 0, 5}};
        for (int day = 1; day <= want.length; day++) {
            due.is("pass(1)", x.pass(1), day);
            for (int t = 0; t < 4; t++) {
                due.is("day " + day + ": pin(" + t + ", 2)", x.pin(t, 2), want[day - 1][t]);
            }
        }
        due.is("gone", x.pin(2, 3), 3);
        due.is("pass(24)", x.pass(24), 30);
        due.is("count(2)", x.count(2), 30);
        due.is("35 days of a sharp one", x.pin(1, 2), 35);
    }

    private static void goneStaysGone() {
        HeartPins x = Due.laid("p60;t0,2,2;h5,9,30;");
        x.pass(2);
        due.is("a dull one", x.pin(0, 3), 3);
        x.pass(24);
        due.is("a dull one later", x.pin(0, 2), 0);
        due.is("count(6)", x.count(6), 1);
    }

    private static void fullHeart() {
        HeartPins x = Due.laid("p60;t0,0,5;t0,1,5;t0,2,1;t0,3,5;t0,2,3;h10,20,30;");
        for (int t = 0; t < 4; t++) {
            x.stick(t);
        }
        x.pass(1);
        int[] first = {6, 7, 1, 7, 2};
        for (int t = 0; t < 5; t++) {
            due.is("full, even: pin(" + t + ", 2)", x.pin(t, 2), first[t]);
        }
        due.is("a dull one of 1 stays in a full heart", x.pin(2, 3), 1);
        x.pass(1);
        int[] second = {7, 9, 1, 7, 1};
        for (int t = 0; t < 5; t++) {
            due.is("full, uneven: pin(" + t + ", 2)", x.pin(t, 2), second[t]);
        }
        x = Due.laid("p60;t0,1,5;t0,0,5;h10,20,30;");
        x.stick(0);
        x.stick(1);
        x.pass(1);
        due.is("not full ahead of the day: plain", x.pin(1, 2), 5);
        due.is("not full ahead of the day: sharp", x.pin(0, 2), 6);
        due.is("not full ahead of the day: no walk", x.heart(3), 0);
        due.is("full behind it", x.heart(5), 1);
        x = Due.laid("p60;t0,2,6;t0,0,5;h10,20,30;");
        x.stick(0);
        x.stick(1);
        x.pass(1);
        due.is("full ahead of the day: plain", x.pin(1, 2), 6);
        due.is("full ahead of the day: dull", x.pin(0, 2), 6);
        due.is("full ahead of the day: walk", x.heart(3), 1);
        x = Due.laid("p60;t0,2,1;h10,20,30;");
        x.stick(0);
        x.pass(1);
        due.is("gone out of the heart", x.pin(0, 3), 3);
        due.is("the heart is empty", x.count(4), 0);
    }

    private static void caps() {
        HeartPins x = Due.laid("p60;t0,1,20;t0,1,19;t0,0,20;t0,3,20;h30,20,30;");
        x.stick(1);
        x.stick(2);
        x.pass(20);
        due.is("a sharp one of 20 behind 20", x.pin(0, 2), 40);
        due.is("one in a full heart", x.pin(1, 2), 40);
        due.is("a plain one in a full heart", x.pin(2, 2), 40);
        due.is("an odd one", x.pin(3, 2), 20);
        x.pass(1);
        due.is("no more than 40, sharp", x.pin(0, 2), 40);
        due.is("no more than 40, in the heart", x.pin(1, 2), 40);
        due.is("no more than 40, plain in the heart", x.pin(2, 2), 40);
        x = Due.laid("p60;t0,3,20;t0,3,19;t0,0,1;h1,20,30;");
        x.stick(0);
        x.stick(1);
        x.pass(20);
        due.is("odd ones in a full heart behind 20", x.pin(0, 2), 40);
        due.is("odd ones in a full heart behind 20", x.pin(1, 2), 39);
        x.pass(1);
        due.is("no more than 40, odd", x.pin(0, 2), 40);
        due.is("no more than 40, odd", x.pin(1, 2), 40);
        x.pass(1);
        due.is("uneven: 1 less, then 1 larger", x.pin(0, 2), 40);
        x.feel(0, 0);
        x.pass(1);
        due.is("even, 40 borne", x.pin(0, 2), 40);
        x.pass(1);
        due.is("uneven, 40 borne", x.pin(0, 2), 39);
    }

    private static void walking() {
        HeartPins x = Due.laid("p60;t0,0,9;h8,3,30;");
        x.stick(0);
        x.pass(2);
        due.is("walked 2", x.heart(3), 2);
        x.pass(2);
        due.is("walked the whole way, no more", x.heart(3), 3);
        x.feel(0, 0);
        x.pass(1);
        due.is("1 back", x.heart(3), 2);
        due.is("not at the door", x.heart(6), 0);
        x.pass(1);
        x.stick(0);
        x.pass(1);
        due.is("1 back, then on again", x.heart(3), 2);
        x.feel(0, 0);
        x.pass(5);
        due.is("0 at least", x.heart(3), 0);
    }

    private static void shaking() {
        HeartPins x = Due.laid("p60;t0,0,9;t0,1,1;h8,20,3;");
        x.stick(0);
        x.pass(2);
        due.is("not yet: walked", x.heart(3), 2);
        due.is("not yet: pin(0, 3)", x.pin(0, 3), 1);
        x.pass(1);
        due.is("shaken out: walked", x.heart(3), 0);
        due.is("shaken out: pin(0, 3)", x.pin(0, 3), 2);
        due.is("it grew on that day too", x.pin(0, 2), 12);
        due.is("one borne stays", x.pin(1, 3), 0);
        x.stick(1);
        x.pass(2);
        due.is("day 5: in the heart", x.pin(1, 3), 1);
        due.is("what is shaken out stays as large", x.pin(0, 2), 12);
        x.pass(1);
        due.is("day 6: shaken out", x.pin(1, 3), 2);
        x.pass(4);
        due.is("a sharp one shaken out stays as large", x.pin(1, 2), 7);
        x = Due.laid("p60;t0,0,9;h8,1,2;");
        x.stick(0);
        x.pass(2);
        due.is("shaken out at the door", x.heart(6), 0);
        due.is("count(5)", x.count(5), 1);
    }

    private static void undoing() {
        HeartPins x = new HeartPins();
        x.stick(4);
        x.pass(3);
        x.feel(4, 0);
        x.bear(1, 3);
        due.is("count(10)", x.count(10), 4);
        due.is("undo bear", x.undo(), 3);
        due.is("pin(1, 4)", x.pin(1, 4), 0);
        due.is("undo feel", x.undo(), 2);
        due.is("pin(4, 3)", x.pin(4, 3), 1);
        due.is("undo pass: all at one time are one", x.undo(), 1);
        due.is("count(2)", x.count(2), 0);
        due.is("pin(4, 2)", x.pin(4, 2), 6);
        due.is("undo stick", x.undo(), 0);
        due.is("pin(4, 3)", x.pin(4, 3), 0);
        due.is("undo nothing", x.undo(), HeartPins.NO);
        x.stick(8);
        x.bear(0, 0);
        x.pass(25);
        due.is("what could not be done", x.undo(), HeartPins.NO);
        for (int i = 1; i <= 11; i++) {
            due.is("pass(1)", x.pass(1), i);
            due.is("count(10)", x.count(10), Math.min(i, 8));
        }
        for (int i = 7; i >= 0; i--) {
            due.is("undo", x.undo(), i);
            due.is("count(2)", x.count(2), 3 + i);
        }
        due.is("the last 8 can be", x.undo(), HeartPins.NO);
        due.is("count(2)", x.count(2), 3);
        x = Due.laid("p60;t0,2,1;t0,0,9;h8,9,2;");
        x.stick(1);
        x.pass(2);
        due.is("gone", x.pin(0, 3), 3);
        due.is("shaken out", x.pin(1, 3), 2);
        x.undo();
        due.is("not gone", x.pin(0, 2), 1);
        due.is("not shaken out", x.pin(1, 3), 1);
        due.is("as large", x.pin(1, 2), 9);
        x.pass(1);
        due.is("walked", x.heart(3), 1);
        x.see(0, 0, 0);
        x.mark(1);
        x.undo();
        due.is("not walked", x.heart(3), 0);
        due.is("what is seen stays", x.count(8), 1);
        due.is("what is marked stays", x.count(9), 1);
    }
}
