import java.util.function.Supplier;

/** Objects in states where there is much to change, and where nothing can be done. */
final class Scenes {
    record Scene(String name, int persons, int pins, Supplier<HeartPins> make) {
    }

    static final Scene NEW = new Scene("new", 4, 8, HeartPins::new);
    static final Scene ALONE = new Scene("one person, no pin", 1, 0, () -> Due.laid("p0;"));
    static final Scene ONE = new Scene("one person, one pin", 1, 1, () -> Due.laid("p9;t0,0,5;"));
    static final Scene MOST = new Scene("five persons, eight pins", 5, 8,
        () -> Due.laid("p1;p2;p3;p4;p5;t0,0,1;t1,1,2;t2,2,3;t3,3,4;t4,0,5;t4,1,6;t4,2,7;t4,3,8;"));
    static final Scene RICH = new Scene("rich", 4, 8, Scenes::rich);
    static final Scene STUCK = new Scene("nothing can be done", 1, 2, Scenes::stuck);

    static final Scene DONE = new Scene("much to undo, nothing kept", 4, 8, () -> {
        HeartPins x = new HeartPins();
        for (int t = 0; t < 8; t++) {
            x.stick(t);
            x.pass(1);
        }
        return x;
    });
    static final Scene KEPT = new Scene("nothing to undo, two kept", 4, 8, () -> {
        HeartPins x = Due.laid("p12;p20;p9;p15;t0,0,5;t0,1,3;t1,2,9;t1,3,4;t2,1,6;t2,0,2;t3,3,7;t3,2,4;h10,4,9;");
        x.stick(0);
        x.keep();
        x.stick(1);
        x.keep();
        x.undo();
        x.undo();
        return x;
    });

    static final Scene[] ALL = {NEW, ALONE, ONE, MOST, RICH, STUCK};

    /**
     * Pins of all four places, a heart that has walked, more acts than can be undone, 2 kept (unlike), 3 seen, 3 marked,
     * another text that can be laid. Pin 0 is in the heart, 1 is gone, 2 shaken out, 3 to 7 are borne; none is at the door.
     */
    private static HeartPins rich() {
        HeartPins x = Due.laid("p30;p9;p0;p7;t0,0,9;t0,2,2;t1,0,4;t1,3,4;t2,1,6;t2,0,5;t0,0,1;t1,2,20;h8,4,4;");
        Due.text(x, "p3;t0,2,2;");
        x.stick(2);
        x.pass(4);
        x.keep();
        x.stick(0);
        x.bear(3, 0);
        x.pass(1);
        x.keep();
        x.stick(4);
        x.feel(4, 1);
        x.bear(5, 1);
        x.bear(5, 3);
        x.pass(1);
        x.bear(6, 2);
        x.see(3, 1, 4);
        x.see(0, 0, 10);
        x.see(7, 20, 0);
        x.mark(4);
        x.mark(0);
        x.mark(40);
        return x;
    }

    /** At the door, nothing borne, one gone, one in the heart; what is written, seen, marked and kept is full. */
    private static HeartPins stuck() {
        HeartPins x = Due.laid("p0;t0,2,1;t0,0,20;h0,1,30;");
        x.stick(1);
        x.pass(1);
        x.keep();
        x.keep();
        for (int i = 0; i < 8; i++) {
            x.see(1, i, 40 - i);
            x.mark(40 - i);
        }
        Due.text(x, "p10;p11;" + "h10,1,1;".repeat(24));
        return x;
    }
}
