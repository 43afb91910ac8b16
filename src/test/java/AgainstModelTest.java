/** Long runs of calls, drawn by a rule of its own and so the same each time, against the plain model. */
public final class AgainstModelTest {
    private static final Due due = new Due("AgainstModelTest");
    private static long state = 20261119;

    /**
     * An object is used for 512 calls at most: from this many on only what all stands like is asked (94 calls), which leaves
     * room for the longest of the calls ahead of that (a text told anew, 100 at most) and a brief look (12).
     */
    private static final int CALLS = 300;
    private static int calls = 0;

    private static int draw(int many) {
        state = state * 6364136223846793005L + 1442695040888963407L;
        return (int) ((state >>> 33) % many);
    }

    /** A number from least to most, at times one beside them. */
    private static int near(int least, int most) {
        int odds = draw(40);
        if (odds == 0) {
            return least - 1;
        }
        if (odds == 1) {
            return most + 1;
        }
        if (odds == 2 && draw(4) == 0) {
            return draw(2) == 0 ? Integer.MIN_VALUE : Integer.MAX_VALUE;
        }
        return least + draw(most - least + 1);
    }

    private static String text() {
        StringBuilder s = new StringBuilder();
        int persons = 1 + draw(5);
        int pins = draw(9);
        int tight = draw(3);
        for (int i = 0; i < persons; i++) {
            s.append('p').append(tight == 0 ? draw(61) : tight == 1 ? draw(16) : 30 + draw(31)).append(';');
        }
        for (int i = 0; i < pins; i++) {
            int large = 1 + draw(draw(2) == 0 ? 4 : 20);
            s.append('t').append(draw(persons)).append(',').append(draw(4)).append(',').append(large).append(';');
        }
        if (draw(5) > 0) {
            s.append('h').append(draw(draw(2) == 0 ? 12 : 61)).append(',').append(1 + draw(draw(2) == 0 ? 4 : 20));
            s.append(',').append(1 + draw(30)).append(';');
        }
        if (draw(4) == 0) {
            spoil(s);
        }
        return s.toString();
    }

    private static void spoil(StringBuilder s) {
        String signs = "pth0123456789,;; x";
        for (int i = draw(3); i >= 0 && s.length() > 0; i--) {
            int at = draw(s.length());
            char sign = signs.charAt(draw(signs.length()));
            switch (draw(3)) {
                case 0 -> s.setCharAt(at, sign);
                case 1 -> s.insert(at, sign);
                default -> s.deleteCharAt(at);
            }
        }
    }

    public static void main(String[] args) {
        for (int run = 0; run < 4000; run++) {
            HeartPins x = new HeartPins();
            PlainModel m = new PlainModel();
            boolean dear = run % 50 == 0;
            calls = 0;
            if (run % 10 > 0) {
                tell(x, m);
            }
            while (calls < CALLS) {
                call(x, m, dear);
                if (draw(30) == 0) {
                    brief(x, m);
                }
            }
            compare(x, m);
        }
        due.end();
    }

    /** Each answer asked for is one call of the object. */
    private static void is(String call, long got, long want) {
        calls++;
        due.is(call, got, want);
    }

    private static void tell(HeartPins x, PlainModel m) {
        String text = text();
        is("wipe", x.wipe(), m.wipe());
        for (int i = 0; i < text.length(); i++) {
            is("write", x.write(text.charAt(i)), m.write(text.charAt(i)));
        }
        is("fault of " + text, x.fault(), m.fault());
        is("lay of " + text, x.lay(), m.lay());
    }

    private static void call(HeartPins x, PlainModel m, boolean dear) {
        int persons = m.w.bears.size() - 1;
        int pins = Math.max(0, m.w.pins.size() - 1);
        int t = near(0, pins), p = near(0, persons);
        switch (draw(34)) {
            case 0 -> {
                int letter = near(32, 126);
                is("write(" + letter + ")", x.write(letter), m.write(letter));
            }
            case 1 -> {
                if (draw(12) == 0) {
                    tell(x, m);
                }
            }
            case 2, 3, 4, 5 -> is("stick(" + t + ")", x.stick(t), m.stick(t));
            case 6, 7 -> is("feel(" + t + ", " + p + ")", x.feel(t, p), m.feel(t, p));
            case 8, 9 -> is("bear(" + t + ", " + p + ")", x.bear(t, p), m.bear(t, p));
            case 10, 11 -> {
                int n = near(1, draw(3) == 0 ? 24 : 3);
                is("pass(" + n + ")", x.pass(n), m.pass(n));
            }
            case 12, 13 -> is("undo()", x.undo(), m.undo());
            case 14 -> {
                int n = near(0, 60);
                is("behind(" + n + ", " + p + ")", x.behind(n, p), m.behind(n, p));
            }
            case 15 -> {
                int n = near(0, 60);
                is("walked(" + n + ")", x.walked(n), m.walked(n));
            }
            case 16 -> is("breaks(" + p + ")", x.breaks(p), m.breaks(p));
            case 17 -> is("door()", x.door(), m.door());
            case 18 -> {
                int n = near(0, draw(2) == 0 ? 4 : 20), what = near(0, 1);
                is("best(" + n + ", " + what + ")", x.best(n, what), m.best(n, what));
            }
            case 19 -> {
                if (dear || persons < 2 || pins < 5) {
                    is("share(" + t + ")", x.share(t), m.share(t));
                    is("share(-1)", x.share(-1), m.share(-1));
                }
            }
            case 20 -> {
                int what = near(0, 1);
                is("relief(" + what + ")", x.relief(what), m.relief(what));
            }
            case 21 -> {
                int v = near(2, draw(2) == 0 ? 20 : 80);
                is("pair(" + v + ")", x.pair(v), m.pair(v));
            }
            case 22, 23 -> seeing(x, m, t);
            case 24 -> is("kinds(" + t + ")", x.kinds(t), m.kinds(t));
            case 25, 26 -> marking(x, m);
            case 27 -> {
                int n = near(0, 20), k = near(-1, 7);
                is("which(" + n + ", " + k + ")", x.which(n, k), m.which(n, k));
            }
            case 28 -> {
                if (draw(4) == 0) {
                    is("forget()", x.forget(), m.forget());
                }
            }
            case 29 -> {
                int n = near(0, 8), tenths = near(0, 10), part = near(0, 1);
                is("bad(" + p + ", " + n + ", " + tenths + ", " + part + ")", x.bad(p, n, tenths, part),
                    m.bad(p, n, tenths, part));
            }
            case 30 -> {
                int z = near(0, 9999), n = near(1, 60), what = near(0, 1);
                is("month(" + z + ", " + n + ", " + what + ")", x.month(z, n, what), m.month(z, n, what));
            }
            case 31 -> is("keep()", x.keep(), m.keep());
            case 32 -> is("back()", x.back(), m.back());
            default -> compareOne(x, m);
        }
    }

    private static void compareOne(HeartPins x, PlainModel m) {
        int p = near(0, 5), t = near(0, 8), what = near(0, 12);
        is("person(" + p + ", " + what + ")", x.person(p, what), m.person(p, what));
        is("pin(" + t + ", " + what + ")", x.pin(t, what), m.pin(t, what));
        is("heart(" + what + ")", x.heart(what), m.heart(what));
        is("count(" + what + ")", x.count(what), m.count(what));
        is("fault()", x.fault(), m.fault());
    }

    /** Half of what is seen is so by some kind, that kinds may be left. */
    private static void seeing(HeartPins x, PlainModel m, int t) {
        int n = near(0, draw(2) == 0 ? 3 : 20);
        int large = m.pin(t, 2);
        int v = draw(2) == 0 || large < 0 ? near(0, 40) : Math.min(40, Math.max(0, large + n * (draw(3) - 1)));
        is("see(" + t + ", " + n + ", " + v + ")", x.see(t, n, v), m.see(t, n, v));
    }

    /** At times all that are borne are marked, as large as they are behind some days. */
    private static void marking(HeartPins x, PlainModel m) {
        if (draw(2) == 0) {
            int v = near(0, 40);
            is("mark(" + v + ")", x.mark(v), m.mark(v));
            return;
        }
        is("forget()", x.forget(), m.forget());
        int n = draw(4);
        int turn = draw(8);
        for (int i = 0; i < 8; i++) {
            int t = (i + turn) % 8;
            if (m.pin(t, 3) == 0) {
                int large = m.pin(t, 2), kind = m.pin(t, 1);
                int odd = n % 2 == 0 ? large : m.w.day % 2 == 0 ? large + 1 : large - 1;
                int v = kind == 1 ? large + n : kind == 2 ? large - n : kind == 3 ? odd : large;
                v = Math.min(40, Math.max(0, v));
                is("mark(" + v + ")", x.mark(v), m.mark(v));
            }
        }
        for (int k = -1; k < 8; k++) {
            is("which(" + n + ", " + k + ")", x.which(n, k), m.which(n, k));
        }
    }

    private static void brief(HeartPins x, PlainModel m) {
        for (int what = 2; what < 12; what++) {
            is("count(" + what + ")", x.count(what), m.count(what));
        }
        is("heart(3)", x.heart(3), m.heart(3));
        is("heart(4)", x.heart(4), m.heart(4));
    }

    /** All that stands: 94 calls. */
    private static void compare(HeartPins x, PlainModel m) {
        for (int what = -1; what < 14; what++) {
            is("count(" + what + ")", x.count(what), m.count(what));
        }
        for (int what = -1; what < 8; what++) {
            is("heart(" + what + ")", x.heart(what), m.heart(what));
        }
        for (int t = 0; t < 9; t++) {
            for (int what = 0; what < 5; what++) {
                is("pin(" + t + ", " + what + ")", x.pin(t, what), m.pin(t, what));
            }
        }
        for (int p = 0; p < 6; p++) {
            for (int what = 0; what < 4; what++) {
                is("person(" + p + ", " + what + ")", x.person(p, what), m.person(p, what));
            }
        }
        is("fault()", x.fault(), m.fault());
    }
}
