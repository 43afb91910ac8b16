/** Promises 1 to 8: a new object, THE TEXT, what is LAID, who is there. */
public final class FamiliesTest {
    private static final Due due = new Due("FamiliesTest");

    public static void main(String[] args) {
        newObject();
        writing();
        faults();
        laying();
        persons();
        pins();
        hearts();
        due.end();
    }

    private static void newObject() {
        HeartPins x = new HeartPins();
        int[] counts = {4, 8, 0, 8, 0, 0, 0, 0, 0, 0, 0, 0, 0};
        for (int what = 0; what < counts.length; what++) {
            due.is("new: count(" + what + ")", x.count(what), counts[what]);
        }
        int[] bearable = {12, 20, 9, 15};
        for (int p = 0; p < 4; p++) {
            due.is("new: person(" + p + ", 0)", x.person(p, 0), bearable[p]);
        }
        int[][] told = {{0, 0, 5}, {0, 1, 3}, {1, 2, 9}, {1, 3, 4}, {2, 1, 6}, {2, 0, 2}, {3, 3, 7}, {3, 2, 4}};
        for (int t = 0; t < 8; t++) {
            for (int what = 0; what < 3; what++) {
                due.is("new: pin(" + t + ", " + what + ")", x.pin(t, what), told[t][what]);
            }
            due.is("new: pin(" + t + ", 3)", x.pin(t, 3), 0);
            due.is("new: pin(" + t + ", 4)", x.pin(t, 4), told[t][0]);
        }
        int[] heart = {10, 4, 9, 0, 0, 0, 0};
        for (int what = 0; what < heart.length; what++) {
            due.is("new: heart(" + what + ")", x.heart(what), heart[what]);
        }
        due.is("new: undo()", x.undo(), HeartPins.NO);
        due.is("new: back()", x.back(), HeartPins.NO);
        due.is("new: fault()", x.fault(), HeartPins.NONE);
        due.is("new: lay()", x.lay(), HeartPins.NO);
        due.is("new: wipe()", x.wipe(), 0);
        HeartPins other = new HeartPins();
        x.pass(1);
        x.write('p');
        due.is("another new: count(2)", other.count(2), 0);
        due.is("another new: count(12)", other.count(12), 0);
    }

    private static void writing() {
        HeartPins x = new HeartPins();
        due.is("write(31)", x.write(31), HeartPins.BAD);
        due.is("write(127)", x.write(127), HeartPins.BAD);
        due.is("write(-1)", x.write(-1), HeartPins.BAD);
        due.is("write(65536 + 'p')", x.write(65536 + 'p'), HeartPins.BAD);
        due.is("write min", x.write(Integer.MIN_VALUE), HeartPins.BAD);
        due.is("write max", x.write(Integer.MAX_VALUE), HeartPins.BAD);
        due.is("write(32)", x.write(32), 1);
        due.is("write(126)", x.write(126), 2);
        for (int i = 3; i <= 200; i++) {
            due.is("write, the " + i + "th", x.write('p'), i);
        }
        due.is("write, the 201st", x.write('p'), HeartPins.FULL);
        due.is("write(31), full", x.write(31), HeartPins.BAD);
        due.is("write, full: count(12)", x.count(12), 200);
        due.is("wipe, full", x.wipe(), 200);
        due.is("wipe again", x.wipe(), 0);
        due.is("write after wipe", x.write('p'), 1);
        due.is("count(12)", x.count(12), 1);
        due.is("fault of p", x.fault(), 0);
        x.write('1');
        x.write(';');
        due.is("fault of p1;", x.fault(), HeartPins.NONE);
    }

    private static void faults() {
        String[] whole = {"", "p10;", "p0;", "p60;", "p07;", "p00;", "h60,20,30;", "h0,1,1;", "h00,01,01;h1,1,1;",
            "p1;t0,0,1;", "p1;t0,3,20;", "p1;p2;t1,0,1;h5,5,5;p3;t2,1,1;", "p1;p2;p3;p4;p5;t4,0,1;",
            "p1;t0,0,1;t0,0,2;t0,0,3;t0,0,4;t0,0,5;t0,0,6;t0,0,7;t00,00,08;"};
        for (String text : whole) {
            fault(text, HeartPins.NONE);
        }
        String[] first = {"p61;", "p99;", "p007;", "p100;", "p;", "p", "p1", "p10", "p10,5;", "P10;", " p1;", "p 1;", "p-1;",
            "p1,;", "p,1;", ";", "1;", "x1;", "q;", "t0,0,1;p1;", "t0,0,1;", "h61,1,1;", "h1,0,1;", "h1,21,1;",
            "h1,1,0;", "h1,1,31;", "h1,1;", "h1;", "h1,1,1,1;", "h1,1,1", "h;", "h,,;", "h1;1;1;", "p1.", "p1:", "p/;", "p:;",
            "~"};
        for (String text : first) {
            fault(text, 0);
        }
        fault("p10;p61;", 4);
        fault("p10; ", 4);
        fault("p10;;", 4);
        fault("p10;\"", 4);
        fault("p1;t1,0,1;p1;", 3);
        fault("p1;p1;t1,0,1;t2,0,1;", 13);
        fault("p1;t0,4,1;", 3);
        fault("p1;t0,0,0;", 3);
        fault("p1;t0,0,21;", 3);
        fault("p1;t0,0;", 3);
        fault("p1;t0;", 3);
        fault("p1;t0,0,1,1;", 3);
        fault("p1;t0,0,1", 3);
        fault("p1;t0,000,1;", 3);
        fault("p1;p1;p1;p1;p1;p1;", 15);
        fault("p1;t0,0,1;t0,0,1;t0,0,1;t0,0,1;t0,0,1;t0,0,1;t0,0,1;t0,0,1;t0,0,1;", 3 + 8 * 7);
        fault("p1;x;p61;", 3);
        StringBuilder long200 = new StringBuilder();
        for (int i = 0; i < 25; i++) {
            long200.append("h10,1,1;");
        }
        fault(long200.toString(), HeartPins.NONE);
        fault(long200.substring(0, 199), 192);
    }

    private static void fault(String text, int want) {
        HeartPins x = new HeartPins();
        Due.text(x, text);
        due.is("fault of " + text, x.fault(), want);
        due.is("fault again of " + text, x.fault(), want);
        due.is("its length", x.count(12), text.length());
        due.is("what is laid stays", x.count(0), 4);
        due.is("what is laid stays", x.heart(0), 10);
    }

    private static void laying() {
        HeartPins x = new HeartPins();
        x.stick(0);
        x.pass(1);
        x.see(1, 1, 1);
        x.mark(1);
        x.keep();
        int[] before = {4, 8, 1, 7, 1, 0, 0, 0, 1, 1, 2, 1};
        for (String text : new String[] {"", "h1,1,1;", "p1;p61;", "p1;t0,0,1"}) {
            Due.text(x, text);
            due.is("lay() of " + text, x.lay(), HeartPins.NO);
            for (int what = 0; what < before.length; what++) {
                due.is("after NO: count(" + what + ")", x.count(what), before[what]);
            }
        }
        Due.text(x, "p7;p8;t1,3,9;h1,2,3;h4,5,6;");
        due.is("lay()", x.lay(), 2);
        int[] after = {2, 1, 0, 1, 0, 0, 0, 1, 0, 0, 0, 0, 27};
        for (int what = 0; what < after.length; what++) {
            due.is("laid: count(" + what + ")", x.count(what), after[what]);
        }
        due.is("laid: undo()", x.undo(), HeartPins.NO);
        due.is("laid: back()", x.back(), HeartPins.NO);
        due.is("laid: kinds(0)", x.kinds(0), 15);
        for (int what = 0; what < 3; what++) {
            due.is("the last heart counts", x.heart(what), 4 + what);
        }
        due.is("laid: person(2, 0)", x.person(2, 0), HeartPins.BAD);
        due.is("laid: pin(1, 0)", x.pin(1, 0), HeartPins.BAD);
        due.is("laid: pin(0, 2)", x.pin(0, 2), 9);
        due.is("laid: fault() of the text that stays", x.fault(), HeartPins.NONE);
        due.is("the text can be laid again", x.lay(), 2);
        x = Due.laid("p60;t0,0,5;h1,9,30;");
        x.stick(0);
        x.pass(3);
        due.is("walked", x.heart(3), 3);
        x.lay();
        due.is("laid anew: it has walked 0", x.heart(3), 0);
        due.is("laid anew: day 0", x.count(2), 0);
        due.is("laid anew: as large as told", x.pin(0, 2), 5);
        due.is("laid anew: borne by whose it is", x.pin(0, 4), 0);
        x = Due.laid("p5;");
        due.is("without a heart: room", x.heart(0), 12);
        due.is("without a heart: door", x.heart(1), 5);
        due.is("without a heart: rhythm", x.heart(2), 14);
        due.is("without pins: count(1)", x.count(1), 0);
        x = Due.laid("p1;p2;p3;p4;p5;t4,1,2;");
        due.is("five", x.count(0), 5);
        due.is("five: person(4, 0)", x.person(4, 0), 5);
        due.is("five: person(4, 2)", x.person(4, 2), 1);
    }

    private static void persons() {
        HeartPins x = Due.laid("p8;p7;p0;t0,0,3;t1,0,8;t0,0,5;");
        int[][] want = {{8, 8, 5, 0}, {7, 8, 2, 1}, {0, 0, 0, 0}};
        for (int p = 0; p < 3; p++) {
            for (int what = 0; what < 4; what++) {
                due.is("person(" + p + ", " + what + ")", x.person(p, what), want[p][what]);
            }
            due.is("person(" + p + ", 4)", x.person(p, 4), HeartPins.BAD);
            due.is("person(" + p + ", -1)", x.person(p, -1), HeartPins.BAD);
        }
        due.is("person(3, 0)", x.person(3, 0), HeartPins.BAD);
        due.is("person(-1, 1)", x.person(-1, 1), HeartPins.BAD);
        due.is("person(max, 0)", x.person(Integer.MAX_VALUE, 0), HeartPins.BAD);
        due.is("person(min, 0)", x.person(Integer.MIN_VALUE, 0), HeartPins.BAD);
        x.bear(0, 1);
        due.is("borne for: person(1, 1)", x.person(1, 1), 11);
        due.is("borne for: person(1, 2)", x.person(1, 2), 3);
        x.stick(1);
        due.is("stuck: person(1, 1)", x.person(1, 1), 3);
        due.is("stuck: person(1, 3)", x.person(1, 3), 0);
    }

    private static void pins() {
        HeartPins x = Due.laid("p8;p7;t0,3,3;t1,2,1;t1,1,9;h60,9,2;");
        x.stick(2);
        x.bear(0, 1);
        due.is("who bears it", x.pin(0, 4), 1);
        due.is("whose it was told", x.pin(0, 0), 0);
        due.is("in the heart", x.pin(2, 3), 1);
        due.is("in the heart, nobody bears it", x.pin(2, 4), HeartPins.NONE);
        x.pass(1);
        due.is("gone", x.pin(1, 3), 3);
        due.is("gone: how large", x.pin(1, 2), 0);
        due.is("gone: who", x.pin(1, 4), HeartPins.NONE);
        due.is("gone: whose it was told", x.pin(1, 0), 1);
        due.is("gone: its kind", x.pin(1, 1), 2);
        x.pass(1);
        due.is("shaken out", x.pin(2, 3), 2);
        due.is("shaken out: how large", x.pin(2, 2), 11);
        due.is("shaken out: who", x.pin(2, 4), HeartPins.NONE);
        due.is("pin(0, 5)", x.pin(0, 5), HeartPins.BAD);
        due.is("pin(0, -1)", x.pin(0, -1), HeartPins.BAD);
        due.is("pin(3, 0)", x.pin(3, 0), HeartPins.BAD);
        due.is("pin(-1, 0)", x.pin(-1, 0), HeartPins.BAD);
        due.is("pin(max, 3)", x.pin(Integer.MAX_VALUE, 3), HeartPins.BAD);
        due.is("no pins: pin(0, 0)", Due.laid("p1;").pin(0, 0), HeartPins.BAD);
    }

    private static void hearts() {
        HeartPins x = Due.laid("p60;t0,0,4;t0,0,1;h4,2,30;");
        due.is("heart(-1)", x.heart(-1), HeartPins.BAD);
        due.is("heart(7)", x.heart(7), HeartPins.BAD);
        x.stick(0);
        due.is("as much as there is room: heart(4)", x.heart(4), 4);
        due.is("as much as there is room: heart(5)", x.heart(5), 0);
        x.stick(1);
        due.is("more: heart(4)", x.heart(4), 5);
        due.is("more: heart(5)", x.heart(5), 1);
        due.is("heart(6)", x.heart(6), 0);
        x.pass(1);
        due.is("heart(3)", x.heart(3), 1);
        due.is("heart(6)", x.heart(6), 0);
        x.pass(1);
        due.is("heart(3)", x.heart(3), 2);
        due.is("heart(6)", x.heart(6), 1);
        due.is("heart(4)", x.heart(4), 9);
        due.is("empty heart without room", Due.laid("p1;h0,1,1;").heart(5), 0);
    }
}
