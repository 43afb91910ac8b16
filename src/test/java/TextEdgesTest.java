/** The boundary cases of section 1 and promises 1 to 5: THE TEXT, its ITEMS, FAULT, LAID; each sentence has a test. */
public final class TextEdgesTest {
    private static final Due due = new Due("TextEdgesTest");

    public static void main(String[] args) {
        newObject();
        lettersTold();
        lettersInAll();
        readToTheLastLetter();
        wiped();
        figures();
        numbersOfItems();
        personsAtMost();
        pinsAtMost();
        toldAhead();
        everySign();
        itemsCutShort();
        heartWithout();
        lastHeartCounts();
        firstFault();
        aPersonAtLeast();
        nothingOfWhatWas();
        textStays();
        callsInAll();
        due.end();
    }

    private static void fault(String text, int want) {
        HeartPins x = new HeartPins();
        Due.text(x, text);
        due.is("fault of " + text, x.fault(), want);
        boolean persons = want == HeartPins.NONE && text.indexOf('p') >= 0;
        due.is("lay of " + text + ", NO or not", x.lay() == HeartPins.NO ? 1 : 0, persons ? 0 : 1);
    }

    private static void right(String text) {
        fault(text, HeartPins.NONE);
    }

    // "THE TEXT is empty": as told, nothing written, seen, marked, kept, done.
    private static void newObject() {
        HeartPins x = new HeartPins();
        due.is("new: count(12)", x.count(12), 0);
        due.is("new: fault()", x.fault(), HeartPins.NONE);
        due.is("new: lay()", x.lay(), HeartPins.NO);
        due.is("new: wipe()", x.wipe(), 0);
        due.is("new: undo()", x.undo(), HeartPins.NO);
        due.is("new: back()", x.back(), HeartPins.NO);
        due.is("new: forget()", x.forget(), 0);
        due.is("new: write", x.write('p'), 1);
        // Laid by hand it is the same one.
        HeartPins y = Due.laid("p12;p20;p9;p15;t0,0,5;t0,1,3;t1,2,9;t1,3,4;t2,1,6;t2,0,2;t3,3,7;t3,2,4;h10,4,9;");
        HeartPins z = new HeartPins();
        y.wipe();
        for (int what = 0; what < 13; what++) {
            due.is("as laid: count(" + what + ")", z.count(what), y.count(what));
        }
        for (int t = 0; t < 8; t++) {
            for (int what = 0; what < 5; what++) {
                due.is("as laid: pin(" + t + ", " + what + ")", z.pin(t, what), y.pin(t, what));
            }
        }
        for (int what = 0; what < 7; what++) {
            due.is("as laid: heart(" + what + ")", z.heart(what), y.heart(what));
        }
        for (int p = 0; p < 4; p++) {
            for (int what = 0; what < 4; what++) {
                due.is("as laid: person(" + p + ", " + what + ")", z.person(p, what), y.person(p, what));
            }
        }
    }

    // "A letter (32 to 126, as in ASCII)"
    private static void lettersTold() {
        HeartPins x = new HeartPins();
        for (int letter : new int[] {31, 127, 0, -1, 128, 255, 256 + 'p', 65536 + 'p', Integer.MIN_VALUE + 'p',
            Integer.MIN_VALUE, Integer.MAX_VALUE}) {
            due.is("write(" + letter + ")", x.write(letter), HeartPins.BAD);
            due.is("write(" + letter + "): count(12)", x.count(12), 0);
        }
        for (int letter = 32; letter <= 126; letter++) {
            due.is("write(" + letter + ")", x.write(letter), letter - 31);
        }
        due.is("all letters: count(12)", x.count(12), 95);
    }

    // "A TEXT is letters (200 at most)"
    private static void lettersInAll() {
        HeartPins x = new HeartPins();
        for (int i = 1; i <= 200; i++) {
            due.is("the " + i + "th letter", x.write(';'), i);
        }
        due.is("200 letters: count(12)", x.count(12), 200);
        due.is("the 201st letter", x.write(';'), HeartPins.FULL);
        due.is("the 201st letter, BAD", x.write(31), HeartPins.BAD);
        due.is("the 201st letter, BAD", x.write(127), HeartPins.BAD);
        due.is("still 200 letters", x.count(12), 200);
        due.is("wiped", x.wipe(), 200);
        due.is("room again", x.write(';'), 1);
    }

    /** 24 hearts of 8 letters each. */
    private static String hearts() {
        return "h10,1,1;".repeat(24);
    }

    // The letters at the places 198 and 199 are read as the others are, the 201st is no part of it.
    private static void readToTheLastLetter() {
        String all200 = "p10;p11;" + hearts();
        right(all200);
        fault(all200.substring(0, 199), 192);
        fault("p1;p10;" + hearts() + "p", 199);
        fault("p1;p10;" + hearts() + ";", 199);
        right("p1;p10;" + hearts());
        HeartPins x = new HeartPins();
        Due.text(x, hearts() + "p1;p60;");
        due.is("199 letters", x.count(12), 199);
        due.is("199 letters: lay()", x.lay(), 2);
        due.is("199 letters: the last number", x.person(1, 0), 60);
        Due.text(x, hearts() + "p11;p60;");
        due.is("200 letters", x.count(12), 200);
        due.is("200 letters: lay()", x.lay(), 2);
        due.is("200 letters: the last number", x.person(1, 0), 60);
        due.is("the 201st letter", x.write('x'), HeartPins.FULL);
        due.is("the 201st letter is over none: fault()", x.fault(), HeartPins.NONE);
        due.is("the 201st letter is over none: lay()", x.lay(), 2);
        x = new HeartPins();
        Due.text(x, hearts() + "p1;p1;p60;");
        due.is("the 201st letter is not written: fault()", x.fault(), 198);
        due.is("the 201st letter is not written: lay()", x.lay(), HeartPins.NO);
    }

    // "THE TEXT is empty: how long it was"
    private static void wiped() {
        HeartPins x = new HeartPins();
        due.is("wipe nothing", x.wipe(), 0);
        x.write('p');
        due.is("wipe one", x.wipe(), 1);
        due.is("wiped", x.count(12), 0);
        due.is("wiped: fault()", x.fault(), HeartPins.NONE);
        due.is("wipe again", x.wipe(), 0);
        Due.text(x, "p10;x");
        x.wipe();
        Due.text(x, "p1");
        due.is("no letter of the one ahead is left", x.fault(), 0);
        due.is("what is laid stays", x.count(0), 4);
    }

    private static final String[] BEFORE = {"p", "p1;t", "p1;t0,", "p1;t0,0,", "h", "h1,", "h1,1,"};
    private static final String[] BEHIND = {";", ",0,1;", ",1;", ";", ",1,1;", ",1;", ";"};
    private static final int[] ITEM = {0, 3, 3, 3, 0, 0, 0};

    // "numbers (one or two figures)": none and three are a FAULT, at each place of a number.
    private static void figures() {
        String[] one = {"0", "0", "0", "1", "0", "1", "1"};
        for (int i = 0; i < BEFORE.length; i++) {
            fault(BEFORE[i] + BEHIND[i], ITEM[i]);
            right(BEFORE[i] + one[i] + BEHIND[i]);
            right(BEFORE[i] + "0" + one[i] + BEHIND[i]);
            fault(BEFORE[i] + "00" + one[i] + BEHIND[i], ITEM[i]);
            fault(BEFORE[i] + "-" + one[i] + BEHIND[i], ITEM[i]);
            fault(BEFORE[i] + "+" + one[i] + BEHIND[i], ITEM[i]);
            fault(BEFORE[i] + " " + one[i] + BEHIND[i], ITEM[i]);
            fault(BEFORE[i] + one[i] + " " + BEHIND[i], ITEM[i]);
        }
        fault("p100;", 0);
        fault("p101;", 0);
        fault("p1;t0,0,100;", 3);
        fault("h100,1,1;", 0);
    }

    // "B (0 to 60)", "K (0 PLAIN, 1 SHARP, 2 DULL, 3 ODD)", "S (1 to 20)", "R (0 to 60)", "D (1 to 20)", "Q (1 to 30)"
    private static void numbersOfItems() {
        int[] least = {0, 0, 0, 1, 0, 1, 1};
        int[] greatest = {60, 0, 3, 20, 60, 20, 30};
        for (int i = 0; i < BEFORE.length; i++) {
            for (int number = 0; number <= 99; number++) {
                boolean told = number >= least[i] && number <= greatest[i];
                fault(BEFORE[i] + number + BEHIND[i], told ? HeartPins.NONE : ITEM[i]);
            }
        }
        due.is("bears 0", Due.laid("p0;").person(0, 0), 0);
        due.is("bears 60", Due.laid("p60;").person(0, 0), 60);
        for (int kind = 0; kind <= 3; kind++) {
            due.is("kind " + kind, Due.laid("p1;t0," + kind + ",1;").pin(0, 1), kind);
        }
        due.is("as large as 1", Due.laid("p1;t0,0,1;").pin(0, 2), 1);
        due.is("as large as 20", Due.laid("p1;t0,0,20;").pin(0, 2), 20);
        HeartPins x = Due.laid("p1;h0,1,1;");
        due.is("room 0", x.heart(0), 0);
        due.is("door 1", x.heart(1), 1);
        due.is("shaken out each day", x.heart(2), 1);
        x = Due.laid("p1;h60,20,30;");
        due.is("room 60", x.heart(0), 60);
        due.is("door 20", x.heart(1), 20);
        due.is("shaken out each 30", x.heart(2), 30);
        x = Due.laid("p07;t00,01,02;h03,04,05;");
        due.is("two figures, the first 0: p", x.person(0, 0), 7);
        due.is("two figures, the first 0: t", x.pin(0, 1) * 10 + x.pin(0, 2), 12);
        due.is("two figures, the first 0: h", x.heart(0) * 100 + x.heart(1) * 10 + x.heart(2), 345);
    }

    // "a PERSON who can BEAR B (0 to 60); 5 at most"
    private static void personsAtMost() {
        for (int many = 1; many <= 5; many++) {
            HeartPins x = Due.laid("p7;".repeat(many));
            due.is(many + " persons", x.count(0), many);
            due.is(many + " persons: the last", x.person(many - 1, 0), 7);
            due.is(many + " persons: none behind it", x.person(many, 0), HeartPins.BAD);
        }
        right("p1;p2;p3;p4;p5;");
        fault("p1;p2;p3;p4;p5;p6;", 15);
        fault("p1;p2;p3;p4;p5;t0,0,1;h1,1,1;p6;", 15 + 7 + 7);
        HeartPins x = Due.laid("p11;p12;p13;p14;p15;");
        for (int p = 0; p < 5; p++) {
            due.is("0, 1, ..: person(" + p + ", 0)", x.person(p, 0), 11 + p);
        }
    }

    // "a PIN ..; 8 at most"
    private static void pinsAtMost() {
        StringBuilder text = new StringBuilder("p1;");
        for (int many = 0; many <= 8; many++) {
            HeartPins x = Due.laid(text.toString());
            due.is(many + " pins", x.count(1), many);
            for (int t = 0; t < many; t++) {
                due.is(many + " pins: 0, 1, ..: pin(" + t + ", 2)", x.pin(t, 2), t + 3);
            }
            due.is(many + " pins: none behind them", x.pin(many, 2), HeartPins.BAD);
            text.append("t0,0,").append(many + 3).append(';');
        }
        fault(text.toString(), text.length() - "t0,0,11;".length());
        fault("p1;" + "t0,0,1;".repeat(8) + "h1,1,1;p1;t1,0,1;", 3 + 56 + 7 + 3);
    }

    // "of PERSON P (told ahead)"
    private static void toldAhead() {
        fault("t0,0,1;", 0);
        fault("t0,0,1;p1;", 0);
        fault("h1,1,1;t0,0,1;p1;", 7);
        right("p1;t0,0,1;");
        fault("p1;t1,0,1;", 3);
        fault("p1;t1,0,1;p1;", 3);
        right("p1;p1;t1,0,1;");
        right("p1;t0,0,1;p1;t1,0,1;");
        right("p1;p1;p1;p1;p1;t4,0,1;");
        fault("p1;p1;p1;p1;p1;t5,0,1;", 15);
        fault("p1;p1;p1;p1;t4,0,1;p1;", 12);
        fault("p1;t99,0,1;", 3);
        due.is("of the last one", Due.laid("p1;p1;p1;p1;p1;t4,0,1;").pin(0, 0), 4);
    }

    // "each a letter, then numbers parted by , and a ; behind the last one": every sign at each place.
    private static void everySign() {
        for (char c = 32; c <= 126; c++) {
            boolean figure = c >= '0' && c <= '9';
            fault(c + "5;", c == 'p' ? HeartPins.NONE : 0);
            fault("p1;" + c + "0,1,1;", c == 't' || c == 'h' ? HeartPins.NONE : 3);
            fault("p" + c + ";", figure ? HeartPins.NONE : 0);
            fault("p1" + c + ";", figure ? HeartPins.NONE : c == ';' ? 3 : 0);
            fault("p1" + c, c == ';' ? HeartPins.NONE : 0);
            fault("h1" + c + "1,1;", c == ',' ? HeartPins.NONE : 0);
            fault("h1,1" + c + "1;", c == ',' ? HeartPins.NONE : 0);
            fault("h1,1,1" + c, c == ';' ? HeartPins.NONE : 0);
            fault("p1;t0" + c + "1,1;", c == ',' ? HeartPins.NONE : 3);
            fault("p1;t0,1" + c + "1;", c == ',' ? HeartPins.NONE : 3);
            fault("p1;t0,1,1" + c, c == ';' ? HeartPins.NONE : 3);
            fault("p1;" + c, 3);
        }
        for (int figure = 0; figure <= 9; figure++) {
            due.is("p" + figure + ";", Due.laid("p" + figure + ";").person(0, 0), figure);
            due.is("p4" + figure + ";", Due.laid("p4" + figure + ";").person(0, 0), 40 + figure);
        }
    }

    // Too few letters or numbers of an ITEM, and too many.
    private static void itemsCutShort() {
        String[] items = {"p10;", "t0,1,12;", "h11,12,13;"};
        for (String item : items) {
            right("p1;" + item);
            for (int length = 1; length < item.length(); length++) {
                fault("p1;" + item.substring(0, length), 3);
            }
            fault("p1;" + item + ";", 3 + item.length());
            fault("p1;" + item + ",", 3 + item.length());
            fault("p1;" + item.substring(0, item.length() - 1) + ",1;", 3);
            fault("p1;" + item.substring(0, item.length() - 1) + ",;", 3);
        }
        fault("p1;t0,1;", 3);
        fault("p1;t0;", 3);
        fault("p1;h1,1;", 3);
        fault("p1;h1;", 3);
        fault("p1;h1,1;1;", 3);
        fault("p1;h1;1,1;", 3);
    }

    // "(12, 5, 14 without ..)", also behind a family that had one.
    private static void heartWithout() {
        HeartPins x = Due.laid("p1;h60,20,30;");
        Due.text(x, "p5;");
        due.is("lay()", x.lay(), 1);
        due.is("without: room", x.heart(0), 12);
        due.is("without: door", x.heart(1), 5);
        due.is("without: shaken out", x.heart(2), 14);
    }

    // "of several such the last one counts"
    private static void lastHeartCounts() {
        HeartPins x = Due.laid("h1,2,3;p1;h4,5,6;");
        due.is("of two: the last", x.heart(0) * 100 + x.heart(1) * 10 + x.heart(2), 456);
        x = Due.laid("h1,2,3;h9,9,9;p1;h4,5,6;t0,0,1;h7,8,9;t0,0,1;");
        due.is("of four: the last", x.heart(0) * 100 + x.heart(1) * 10 + x.heart(2), 789);
        x = Due.laid("p1;h60,20,30;h0,1,1;");
        due.is("the last, less", x.heart(0) * 100 + x.heart(1) * 10 + x.heart(2), 11);
        fault("p1;h61,1,1;h1,1,1;", 3);
        fault("p1;h1,1,1;h1,0,1;", 10);
    }

    // "FAULT: the place (from 0 on) of the first letter of the first ITEM that is not so"
    private static void firstFault() {
        right("");
        fault(" ", 0);
        fault("p61;", 0);
        fault("p61;p61;", 0);
        fault("p1;p61;p62;", 3);
        fault("p60;p1;t1,3,20;h60,20,30;t2,0,1;x", 4 + 3 + 8 + 10);
        fault("p60;p1;t1,3,20;h60,20,30;t1,0,1;x", 4 + 3 + 8 + 10 + 7);
        fault("x;p61;", 0);
        fault("p1;x1;p1;", 3);
        fault(";p1;", 0);
        fault("p1;;p1;", 3);
        fault("p1; p1;", 3);
        fault("p1;p1; ", 6);
        fault("P1;", 0);
        fault("p1;T0,0,1;", 3);
        fault("p1;H1,1,1;", 3);
    }

    // "LAID is a TEXT without FAULT, of a PERSON at least (NO else)"
    private static void aPersonAtLeast() {
        HeartPins x = new HeartPins();
        due.is("an empty text: lay()", x.lay(), HeartPins.NO);
        Due.text(x, "h10,4,9;");
        due.is("a heart alone: fault()", x.fault(), HeartPins.NONE);
        due.is("a heart alone: lay()", x.lay(), HeartPins.NO);
        due.is("as it was", x.count(0), 4);
        Due.text(x, "p0;");
        due.is("one person: lay()", x.lay(), 1);
        Due.text(x, "p0;p1;p2;p3;p4;");
        due.is("five persons: lay()", x.lay(), 5);
        Due.text(x, "p0;p1;p2;p3;p4;p5;");
        due.is("six persons: lay()", x.lay(), HeartPins.NO);
        due.is("five as they were", x.person(4, 0), 4);
        Due.text(x, "p0;x");
        due.is("a fault behind a person: lay()", x.lay(), HeartPins.NO);
        due.is("five still", x.count(0), 5);
    }

    // "nothing SEEN, MARKED, UNDONE, KEPT": nor anything of what was there, and room for all of it again.
    private static void nothingOfWhatWas() {
        HeartPins x = Scenes.RICH.make().get();
        x.see(0, 0, 40);
        Due.text(x, "p60;t0,0,5;");
        due.is("lay()", x.lay(), 1);
        for (int what : new int[] {2, 4, 5, 6, 7, 8, 9, 10, 11}) {
            due.is("laid: count(" + what + ")", x.count(what), 0);
        }
        due.is("laid: undo()", x.undo(), HeartPins.NO);
        due.is("laid: back()", x.back(), HeartPins.NO);
        due.is("laid: kinds(0)", x.kinds(0), 15);
        due.is("laid: heart(3)", x.heart(3), 0);
        due.is("laid: heart(4)", x.heart(4), 0);
        due.is("laid: one pin", x.pin(1, 0), HeartPins.BAD);
        due.is("laid: one person", x.person(1, 0), HeartPins.BAD);
        due.is("laid: its load", x.person(0, 1), 5);
        due.is("laid: its pins", x.person(0, 2), 1);
        due.is("laid: borne", x.count(3), 1);
        due.is("laid: forget()", x.forget(), 0);
        for (int i = 1; i <= 8; i++) {
            due.is("room to see", x.see(0, 0, 5), i);
            due.is("room to mark", x.mark(5), i);
        }
        due.is("room to keep", x.keep(), 1);
        due.is("room to keep", x.keep(), 2);
        for (int i = 1; i <= 8; i++) {
            x.pass(1);
            due.is("to be undone", x.count(10), i);
        }
        Due.text(x, "p3;");
        due.is("lay() without pins", x.lay(), 1);
        for (int what = 1; what <= 11; what++) {
            due.is("without pins: count(" + what + ")", x.count(what), 0);
        }
        due.is("without pins: share(-1)", x.share(-1), 0);
        due.is("without pins: relief(0)", x.relief(0), HeartPins.NONE);
        due.is("without pins: pair(10)", x.pair(10), HeartPins.NONE);
        due.is("without pins: kinds(0)", x.kinds(0), HeartPins.BAD);
        due.is("without pins: person(0, 2)", x.person(0, 2), 0);
        due.is("without pins: which(0, -1)", x.which(0, -1), 1);
    }

    // "THE TEXT stays"
    private static void textStays() {
        HeartPins x = Due.laid("p5;t0,0,5;");
        due.is("laid: count(12)", x.count(12), 10);
        due.is("laid: fault()", x.fault(), HeartPins.NONE);
        due.is("more comes behind it", x.write('p'), 11);
        due.is("fault()", x.fault(), 10);
        x.write('6');
        x.write(';');
        due.is("laid anew", x.lay(), 2);
        due.is("laid anew: the first", x.person(0, 1), 5);
        due.is("laid anew: the other", x.person(1, 0), 6);
        due.is("laid anew: count(12)", x.count(12), 13);
        due.is("wiped", x.wipe(), 13);
        due.is("wiped: what is laid stays", x.count(0), 2);
    }

    // "An object is used for at most 512 calls after it has been made": up to the last all is as promised.
    private static void callsInAll() {
        HeartPins x = new HeartPins();
        for (int i = 1; i <= 511; i++) {
            due.is("pass(24), the " + i + "th call", x.pass(24), 24 * i);
        }
        due.is("the 512th call", x.count(2), 24 * 511);
    }
}
