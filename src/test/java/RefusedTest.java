/**
 * "Nothing changes then": behind a call that is BAD, NO, NONE or FULL all stands as ahead of it, and so does what can be
 * undone, what is kept, seen, marked and written; and calls that only ask change nothing either.
 */
public final class RefusedTest {
    private static final Due due = new Due("RefusedTest");

    public static void main(String[] args) {
        for (Scenes.Scene scene : new Scenes.Scene[] {Scenes.NEW, Scenes.RICH, Scenes.STUCK}) {
            for (Calls.Row row : Calls.all(scene.persons(), scene.pins())) {
                badNumbers(scene, row);
                if (Calls.onlyAsks(row)) {
                    asking(scene, row);
                }
            }
            refused(scene, "fault()", x -> x.fault());
            refused(scene, "door()", x -> x.door());
        }
        notAsThingsStand();
        textsThatCannotBeLaid();
        nothingThere();
        full();
        due.end();
    }

    private static void refused(Scenes.Scene scene, String call, Twins.Use use) {
        Twins.stayAlike(due, scene.name() + ": " + call, scene.make(), use);
    }

    /** One number at a time is none that is told. */
    private static void badNumbers(Scenes.Scene scene, Calls.Row row) {
        for (int i = 0; i < row.ranges().length; i++) {
            int[] range = row.ranges()[i];
            for (int number : new int[] {range[0] - 1, range[1] + 1, Integer.MIN_VALUE, Integer.MAX_VALUE}) {
                int[] numbers = least(row);
                numbers[i] = number;
                String call = row.with(numbers);
                due.is(scene.name() + ": " + call, row.call().on(scene.make().get(), numbers), HeartPins.BAD);
                refused(scene, call, x -> row.call().on(x, numbers));
            }
        }
    }

    private static int[] least(Calls.Row row) {
        int[] numbers = new int[row.ranges().length];
        for (int i = 0; i < numbers.length; i++) {
            numbers[i] = row.ranges()[i][0];
        }
        return numbers;
    }

    /** "Nothing else being done", "nothing changes by it". */
    private static void asking(Scenes.Scene scene, Calls.Row row) {
        for (int end = 0; end <= 1; end++) {
            int[] numbers = new int[row.ranges().length];
            for (int i = 0; i < numbers.length; i++) {
                numbers[i] = row.ranges()[i][end];
            }
            refused(scene, row.with(numbers), x -> row.call().on(x, numbers));
        }
    }

    private static void no(Scenes.Scene scene, String call, Calls.Call asked) {
        due.is(scene.name() + ": " + call, asked.on(scene.make().get(), new int[0]), HeartPins.NO);
        refused(scene, call, x -> asked.on(x, new int[0]));
    }

    private static void notAsThingsStand() {
        no(Scenes.RICH, "stick(0), it is in the heart", (x, n) -> x.stick(0));
        no(Scenes.RICH, "stick(1), it is gone", (x, n) -> x.stick(1));
        no(Scenes.RICH, "stick(2), it is shaken out", (x, n) -> x.stick(2));
        no(Scenes.RICH, "feel(1, 0), it is gone", (x, n) -> x.feel(1, 0));
        no(Scenes.RICH, "feel(2, 0), it is shaken out", (x, n) -> x.feel(2, 0));
        no(Scenes.RICH, "feel(6, 0), it is borne", (x, n) -> x.feel(6, 0));
        no(Scenes.RICH, "bear(0, 1), it is in the heart", (x, n) -> x.bear(0, 1));
        no(Scenes.RICH, "bear(1, 1), it is gone", (x, n) -> x.bear(1, 1));
        no(Scenes.RICH, "bear(2, 0), it is shaken out", (x, n) -> x.bear(2, 0));
        no(Scenes.RICH, "bear(6, 2), that one does", (x, n) -> x.bear(6, 2));
        Scenes.Scene atDoor = new Scenes.Scene("at the door", 1, 2, () -> {
            HeartPins x = Due.laid("p9;t0,0,5;t0,0,3;h4,2,30;");
            x.stick(0);
            x.pass(2);
            return x;
        });
        no(atDoor, "stick(1)", (x, n) -> x.stick(1));
        no(Scenes.NEW, "undo()", (x, n) -> x.undo());
        no(Scenes.NEW, "back()", (x, n) -> x.back());
        no(Scenes.KEPT, "undo()", (x, n) -> x.undo());
        no(Scenes.DONE, "back()", (x, n) -> x.back());
    }

    private static void textsThatCannotBeLaid() {
        for (String text : new String[] {"", "h1,1,1;", "p1;p61;", "p1;t0,0,1", "p1;p1;p1;p1;p1;p1;"}) {
            Scenes.Scene scene = new Scenes.Scene("with the text " + text, 4, 8, () -> {
                HeartPins x = Scenes.RICH.make().get();
                Due.text(x, text);
                return x;
            });
            no(scene, "lay()", (x, n) -> x.lay());
        }
    }

    /** NONE: there is none. */
    private static void nothingThere() {
        Calls.Call[] calls = {(x, n) -> x.door(), (x, n) -> x.best(0, 0), (x, n) -> x.best(20, 1), (x, n) -> x.relief(0),
            (x, n) -> x.relief(1), (x, n) -> x.pair(21), (x, n) -> x.share(0), (x, n) -> x.which(0, 0), (x, n) -> x.breaks(0),
            (x, n) -> x.pin(0, 4), (x, n) -> x.pin(1, 4)};
        for (int i = 1; i < calls.length; i++) {
            Calls.Call call = calls[i];
            due.is("nothing can be done: call " + i, call.on(Scenes.STUCK.make().get(), new int[0]), HeartPins.NONE);
            refused(Scenes.STUCK, "call " + i, x -> call.on(x, new int[0]));
        }
        due.is("new: door()", calls[0].on(new HeartPins(), new int[0]), HeartPins.NONE);
        due.is("new: fault()", new HeartPins().fault(), HeartPins.NONE);
    }

    private static void full() {
        Calls.Call[] calls = {(x, n) -> x.write(32), (x, n) -> x.write(126), (x, n) -> x.see(0, 0, 0), (x, n) -> x.mark(0),
            (x, n) -> x.keep()};
        for (int i = 0; i < calls.length; i++) {
            Calls.Call call = calls[i];
            due.is("nothing can be done: full, call " + i, call.on(Scenes.STUCK.make().get(), new int[0]), HeartPins.FULL);
            refused(Scenes.STUCK, "full, call " + i, x -> call.on(x, new int[0]));
        }
    }
}
