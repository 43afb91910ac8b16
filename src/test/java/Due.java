/** Counts the answers that are not as due, for one test. */
final class Due {
    private final String test;
    private int asked = 0;
    private int wrong = 0;

    Due(String test) {
        this.test = test;
    }

    void is(String call, long got, long want) {
        asked++;
        if (got != want) {
            wrong++;
            System.out.println(test + ": " + call + " answered " + got + ", due is " + want);
        }
    }

    /** Writes a text over what stood there. */
    static void text(HeartPins x, String text) {
        x.wipe();
        for (int i = 0; i < text.length(); i++) {
            x.write(text.charAt(i));
        }
    }

    /** A new object with this text laid. */
    static HeartPins laid(String text) {
        HeartPins x = new HeartPins();
        text(x, text);
        if (x.lay() < 1) {
            throw new IllegalArgumentException("a test's text cannot be laid: " + text);
        }
        return x;
    }

    void end() {
        System.out.println(test + ": " + asked + " answers, " + wrong + " not as due");
        if (wrong != 0 || asked == 0) {
            System.exit(1);
        }
    }
}
