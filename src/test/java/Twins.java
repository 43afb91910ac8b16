import java.util.ArrayList;
import java.util.List;
import java.util.function.Supplier;

/**
 * Two objects of one making, of which one has had calls that change nothing: they stand alike, and so does all that lies
 * behind them: what can be undone, what is kept, the letters of the text. Each look takes two new objects, since an object
 * is used for 512 calls at most.
 */
final class Twins {
    interface Use {
        void on(HeartPins x);
    }

    private static final int LOOKS = 4;

    private Twins() {
    }

    static void stayAlike(Due due, String label, Supplier<HeartPins> make, Use use) {
        for (int look = 0; look < LOOKS; look++) {
            HeartPins used = make.get();
            HeartPins other = make.get();
            use.on(used);
            List<Integer> got = looked(used, look);
            List<Integer> want = looked(other, look);
            due.is(label + " changes nothing, look " + look + ": " + got + ", as " + want, got.equals(want) ? 1 : 0, 1);
        }
    }

    private static List<Integer> looked(HeartPins x, int look) {
        List<Integer> answers = new ArrayList<>();
        switch (look) {
            case 0 -> all(x, answers);
            case 1 -> undone(x, answers);
            case 2 -> back(x, answers);
            default -> text(x, answers);
        }
        return answers;
    }

    /** All that stands, is seen and is marked. */
    private static void all(HeartPins x, List<Integer> answers) {
        for (int what = 0; what < 13; what++) {
            answers.add(x.count(what));
        }
        brief(x, answers);
        for (int p = 0; p < 5; p++) {
            for (int what = 0; what < 4; what++) {
                answers.add(x.person(p, what));
            }
        }
        for (int what = 0; what < 7; what++) {
            answers.add(x.heart(what));
        }
        for (int t = 0; t < 8; t++) {
            answers.add(x.pin(t, 0));
            answers.add(x.pin(t, 1));
            answers.add(x.kinds(t));
        }
        answers.add(x.fault());
        for (int n = 0; n < 4; n++) {
            answers.add(x.which(n, -1));
            answers.add(x.which(n, 0));
        }
    }

    private static void brief(HeartPins x, List<Integer> answers) {
        for (int t = 0; t < 8; t++) {
            answers.add(x.pin(t, 2));
            answers.add(x.pin(t, 3));
            answers.add(x.pin(t, 4));
        }
        answers.add(x.heart(3));
        answers.add(x.count(2));
    }

    private static void undone(HeartPins x, List<Integer> answers) {
        for (int i = 0; i < 9; i++) {
            answers.add(x.undo());
            brief(x, answers);
        }
    }

    private static void back(HeartPins x, List<Integer> answers) {
        for (int i = 0; i < 3; i++) {
            answers.add(x.back());
            brief(x, answers);
        }
        answers.add(x.undo());
        answers.add(x.forget());
    }

    /** What is written more, then laid, tells of the letters ahead of it. */
    private static void text(HeartPins x, List<Integer> answers) {
        answers.add(x.write('p'));
        answers.add(x.fault());
        answers.add(x.write('5'));
        answers.add(x.write(';'));
        answers.add(x.fault());
        answers.add(x.lay());
        all(x, answers);
        answers.add(x.wipe());
        answers.add(x.fault());
    }
}
