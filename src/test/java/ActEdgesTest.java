/** The boundary cases of promises 9 to 13: STUCK, FELT FOR, BORNE by another one, days that go by, UNDONE; each a test. */
public final class ActEdgesTest {
    private static final Due due = new Due("ActEdgesTest");

    public static void main(String[] args) {
        stuckUnlessAtTheDoor();
        stuckIfSomebodyBearsIt();
        stuckHoweverFull();
        stuckLastAndFirst();
        feltForIfInTheHeart();
        feltForByAnyone();
        feltForAtTheDoor();
        borneByAnotherOne();
        borneByThatOneAlready();
        borneIfSomebodyBearsIt();
        daysAtOneTime();
        daysAtOneTimeAreOne();
        lastEightUndone();
        undoneAndDoneAgain();
        undoneRoundAndRound();
        undoneWhole();
        undoneOfEachKind();
        notUndone();
        due.end();
    }

    // "A PIN that somebody BEARS is STUCK into the HEART, unless this is AT THE DOOR"
    private static void stuckUnlessAtTheDoor() {
        for (int door : new int[] {1, 2, 20}) {
            HeartPins x = Due.laid("p60;t0,0,5;t0,0,7;h4," + door + ",30;");
            x.stick(0);
            if (door > 1) {
                x.pass(door - 1);
            }
            due.is("door " + door + ", 1 ahead of it", x.stick(1), 5 + door - 1 + 7);
            x.undo();
            x.pass(1);
            due.is("door " + door + ", at it", x.stick(1), HeartPins.NO);
            due.is("door " + door + ", at it: pin(1, 3)", x.pin(1, 3), 0);
            x.feel(0, 0);
            due.is("door " + door + ", at it, empty", x.stick(1), HeartPins.NO);
            x.pass(1);
            due.is("door " + door + ", 1 back", x.stick(1), 7);
        }
        HeartPins x = Due.laid("p60;t0,0,5;t0,0,7;h4,1,2;");
        x.stick(0);
        x.pass(1);
        due.is("at the door", x.stick(1), HeartPins.NO);
        x.pass(1);
        due.is("shaken out, no more at the door", x.stick(1), 7);
    }

    // "NO: nobody BEARS it": one in the heart, one shaken out, one gone.
    private static void stuckIfSomebodyBearsIt() {
        HeartPins x = Due.laid("p60;t0,0,5;t0,2,1;t0,0,7;h60,9,2;");
        due.is("borne", x.stick(0), 5);
        due.is("in the heart", x.stick(0), HeartPins.NO);
        x.pass(1);
        due.is("gone", x.stick(1), HeartPins.NO);
        x.pass(1);
        due.is("shaken out", x.stick(0), HeartPins.NO);
        due.is("nothing in the heart", x.heart(4), 0);
        due.is("borne still", x.stick(2), 7);
        x.feel(2, 0);
        due.is("borne again", x.stick(2), 7);
    }

    // No room keeps a pin out: only the door does.
    private static void stuckHoweverFull() {
        HeartPins x = Due.laid("p1;" + "t0,0,20;".repeat(8) + "h0,1,30;");
        for (int t = 0; t < 8; t++) {
            due.is("stick(" + t + "), room 0", x.stick(t), 20 * (t + 1));
        }
        x = Due.laid("p1;" + "t0,1,20;".repeat(8) + "h60,1,30;");
        x.pass(20);
        for (int t = 7; t >= 0; t--) {
            due.is("stick(" + t + ") of 40", x.stick(t), 40 * (8 - t));
        }
    }

    // By whomever it is borne, and whichever pin it is.
    private static void stuckLastAndFirst() {
        HeartPins x = Scenes.MOST.make().get();
        due.is("the last pin", x.stick(7), 8);
        due.is("the first pin", x.stick(0), 9);
        x.bear(3, 4);
        due.is("one borne for another", x.stick(3), 13);
        due.is("no such pin", x.stick(8), HeartPins.BAD);
        due.is("no such pin", x.stick(-1), HeartPins.BAD);
    }

    // "NO: it is not in the HEART": one borne, one shaken out, one gone, one felt for.
    private static void feltForIfInTheHeart() {
        HeartPins x = Due.laid("p60;p60;t0,0,5;t0,2,1;h60,9,2;");
        due.is("borne", x.feel(0, 1), HeartPins.NO);
        due.is("borne, by the one who bears it", x.feel(0, 0), HeartPins.NO);
        x.stick(0);
        due.is("in the heart", x.feel(0, 1), 5);
        due.is("felt for", x.feel(0, 1), HeartPins.NO);
        x.stick(0);
        x.pass(1);
        due.is("gone", x.feel(1, 0), HeartPins.NO);
        x.pass(1);
        due.is("shaken out", x.feel(0, 0), HeartPins.NO);
        due.is("shaken out still", x.pin(0, 3), 2);
    }

    // "One in it is FELT FOR by a PERSON: that one BEARS it", also the one whose it was.
    private static void feltForByAnyone() {
        HeartPins x = Scenes.MOST.make().get();
        int[] loads = {6, 7, 8, 9, 26};
        x.stick(4);
        for (int p = 0; p < 5; p++) {
            due.is("feel(4, " + p + ")", x.feel(4, p), p < 4 ? loads[p] : 26);
            due.is("felt for: pin(4, 4)", x.pin(4, 4), p);
            due.is("felt for: heart(4)", x.heart(4), 0);
            x.stick(4);
        }
        due.is("no such person", x.feel(4, 5), HeartPins.BAD);
        due.is("no such person", x.feel(4, -1), HeartPins.BAD);
        x.stick(7);
        due.is("the last pin by the last person", x.feel(7, 4), 21);
        due.is("the other is left in the heart", x.heart(4), 5);
    }

    private static void feltForAtTheDoor() {
        HeartPins x = Due.laid("p60;t0,0,5;h4,1,30;");
        x.stick(0);
        x.pass(1);
        due.is("at the door", x.heart(6), 1);
        due.is("felt for at the door", x.feel(0, 0), 6);
        due.is("at the door, empty", x.heart(6), 1);
    }

    // "One that somebody BEARS is BORNE by another one from then on": who bore it, from the first to the last person.
    private static void borneByAnotherOne() {
        HeartPins x = Scenes.MOST.make().get();
        due.is("bear(0, 4)", x.bear(0, 4), 0);
        due.is("bear(0, 0)", x.bear(0, 0), 4);
        due.is("bear(0, 1)", x.bear(0, 1), 0);
        due.is("bear(0, 3)", x.bear(0, 3), 1);
        due.is("bear(7, 0)", x.bear(7, 0), 4);
        due.is("person(0, 2)", x.person(0, 2), 128);
        due.is("person(3, 2)", x.person(3, 2), 9);
        due.is("person(1, 2)", x.person(1, 2), 2);
        x.pass(3);
        due.is("from then on", x.pin(7, 4), 0);
        x.stick(7);
        x.feel(7, 2);
        due.is("felt for by another one", x.bear(7, 1), 2);
    }

    // "NO: .. that one does"
    private static void borneByThatOneAlready() {
        HeartPins x = Scenes.MOST.make().get();
        int[] who = {0, 1, 2, 3, 4, 4, 4, 4};
        for (int t = 0; t < 8; t++) {
            for (int p = 0; p < 5; p++) {
                if (p == who[t]) {
                    due.is("bear(" + t + ", " + p + ")", x.bear(t, p), HeartPins.NO);
                }
            }
        }
        due.is("nothing done", x.count(10), 0);
        x.bear(0, 4);
        due.is("the new one does", x.bear(0, 4), HeartPins.NO);
        due.is("whose it was told does no more", x.bear(0, 0), 4);
        x = Due.laid("p9;t0,0,5;");
        due.is("alone", x.bear(0, 0), HeartPins.NO);
    }

    // "NO: nobody BEARS it": neither by the one who bore it nor by another.
    private static void borneIfSomebodyBearsIt() {
        HeartPins x = Due.laid("p60;p60;t0,0,5;t0,2,1;h60,9,2;");
        x.stick(0);
        x.pass(1);
        for (int p = 0; p < 2; p++) {
            due.is("in the heart: bear(0, " + p + ")", x.bear(0, p), HeartPins.NO);
            due.is("gone: bear(1, " + p + ")", x.bear(1, p), HeartPins.NO);
        }
        x.pass(1);
        for (int p = 0; p < 2; p++) {
            due.is("shaken out: bear(0, " + p + ")", x.bear(0, p), HeartPins.NO);
        }
        due.is("shaken out still", x.pin(0, 3), 2);
        due.is("gone still", x.pin(1, 3), 3);
    }

    // "n DAYS (1 to 24) go by: how many have gone by in all"
    private static void daysAtOneTime() {
        HeartPins x = new HeartPins();
        due.is("pass(0)", x.pass(0), HeartPins.BAD);
        due.is("pass(25)", x.pass(25), HeartPins.BAD);
        due.is("pass(1)", x.pass(1), 1);
        due.is("pass(24)", x.pass(24), 25);
        due.is("pass(23)", x.pass(23), 48);
        due.is("count(2)", x.count(2), 48);
        for (int n = 1; n <= 24; n++) {
            HeartPins atOnce = Scenes.RICH.make().get();
            HeartPins oneByOne = Scenes.RICH.make().get();
            due.is("pass(" + n + ")", atOnce.pass(n), 6 + n);
            for (int i = 1; i <= n; i++) {
                due.is("pass(1)", oneByOne.pass(1), 6 + i);
            }
            for (int t = 0; t < 8; t++) {
                due.is("at once or one by one: pin(" + t + ", 2)", atOnce.pin(t, 2), oneByOne.pin(t, 2));
                due.is("at once or one by one: pin(" + t + ", 3)", atOnce.pin(t, 3), oneByOne.pin(t, 3));
            }
            due.is("at once or one by one: heart(3)", atOnce.heart(3), oneByOne.heart(3));
        }
    }

    // "all that go by at one time are one"
    private static void daysAtOneTimeAreOne() {
        HeartPins x = new HeartPins();
        x.pass(24);
        due.is("24 days are one", x.count(10), 1);
        x.pass(1);
        due.is("1 day is one", x.count(10), 2);
        due.is("1 day undone", x.undo(), 1);
        due.is("24 have gone by", x.count(2), 24);
        due.is("24 days undone", x.undo(), 0);
        due.is("none has gone by", x.count(2), 0);
        due.is("pin(1, 2)", x.pin(1, 2), 3);
    }

    // "the last 8 can be"
    private static void lastEightUndone() {
        for (int many = 0; many <= 18; many++) {
            HeartPins x = new HeartPins();
            for (int i = 0; i < many; i++) {
                x.pass(1);
            }
            int left = Math.min(many, 8);
            due.is(many + " done: count(10)", x.count(10), left);
            for (int i = 1; i <= left; i++) {
                due.is(many + " done: undo()", x.undo(), left - i);
                due.is(many + " done: count(10)", x.count(10), left - i);
                due.is(many + " done, " + i + " undone: count(2)", x.count(2), many - i);
            }
            due.is(many + " done: none left", x.undo(), HeartPins.NO);
            due.is(many + " done: count(2)", x.count(2), many - left);
        }
    }

    // What is undone makes room; what is done then can be undone in its turn.
    private static void undoneAndDoneAgain() {
        HeartPins x = new HeartPins();
        for (int i = 0; i < 8; i++) {
            x.pass(1);
        }
        due.is("undo one of eight", x.undo(), 7);
        x.pass(2);
        due.is("eight again", x.count(10), 8);
        x.pass(3);
        due.is("eight still", x.count(10), 8);
        int[] days = {9, 7, 6, 5, 4, 3, 2, 1};
        for (int i = 0; i < 8; i++) {
            due.is("undo()", x.undo(), 7 - i);
            due.is("undone: count(2)", x.count(2), days[i]);
        }
        due.is("undo()", x.undo(), HeartPins.NO);
        x.pass(1);
        due.is("one again", x.count(10), 1);
        due.is("undo one", x.undo(), 0);
        due.is("count(2)", x.count(2), 1);
    }

    // Done and undone more often than eight times, so that every place is used again.
    private static void undoneRoundAndRound() {
        HeartPins x = new HeartPins();
        int[] days = new int[60];
        int done = 0;
        int day = 0;
        int can = 0;
        for (int i = 0; i < 90; i++) {
            if (i % 7 == 3 || i % 11 == 5) {
                int want = can == 0 ? HeartPins.NO : can - 1;
                due.is("round " + i + ": undo()", x.undo(), want);
                if (can > 0) {
                    can--;
                    done--;
                    day = days[done];
                }
            } else if (done < days.length) {
                days[done] = day;
                done++;
                can = Math.min(8, can + 1);
                day += 1 + i % 24;
                due.is("round " + i + ": pass()", x.pass(1 + i % 24), day);
            }
            due.is("round " + i + ": count(2)", x.count(2), day);
            due.is("round " + i + ": count(10)", x.count(10), can);
        }
        while (can > 0) {
            can--;
            done--;
            due.is("in the end: undo()", x.undo(), can);
            due.is("in the end: count(2)", x.count(2), days[done]);
        }
        due.is("in the end: undo()", x.undo(), HeartPins.NO);
    }

    // All that an act did is undone: who bears it, how large, where, how far walked, which day.
    private static void undoneWhole() {
        Twins.stayAlike(due, "24 days done and undone", Scenes.NEW.make(), x -> {
            x.pass(24);
            x.undo();
        });
        Scenes.Scene seven = new Scenes.Scene("seven done", 4, 8, () -> {
            HeartPins x = Scenes.RICH.make().get();
            x.undo();
            return x;
        });
        Twins.stayAlike(due, "24 days done and undone, rich", seven.make(), x -> {
            x.pass(24);
            x.undo();
        });
        Twins.stayAlike(due, "stuck and undone", seven.make(), x -> {
            x.stick(3);
            x.undo();
        });
        Twins.stayAlike(due, "felt for and undone", seven.make(), x -> {
            x.feel(0, 1);
            x.undo();
        });
        Twins.stayAlike(due, "borne for another and undone", seven.make(), x -> {
            x.bear(3, 3);
            x.undo();
        });
    }

    // "UNDONE are the latest of these": the latest first, each kind of act.
    private static void undoneOfEachKind() {
        HeartPins x = Due.laid("p60;p60;t0,0,5;h4,9,30;");
        x.bear(0, 1);
        x.stick(0);
        x.pass(1);
        x.feel(0, 0);
        due.is("four", x.count(10), 4);
        due.is("the latest: feel", x.undo(), 3);
        due.is("in the heart", x.pin(0, 3), 1);
        due.is("as large", x.pin(0, 2), 6);
        due.is("walked", x.heart(3), 1);
        due.is("then: pass", x.undo(), 2);
        due.is("as large as ahead of it", x.pin(0, 2), 5);
        due.is("not walked", x.heart(3), 0);
        due.is("then: stick", x.undo(), 1);
        due.is("borne by the one who bore it", x.pin(0, 4), 1);
        due.is("then: bear", x.undo(), 0);
        due.is("borne by whose it is", x.pin(0, 4), 0);
        due.is("no more", x.undo(), HeartPins.NO);
    }

    // Of these alone: what is written, laid, seen, marked, kept is not undone, nor what was refused.
    private static void notUndone() {
        HeartPins x = new HeartPins();
        x.write('p');
        x.see(0, 0, 5);
        x.mark(5);
        x.keep();
        x.stick(8);
        x.feel(0, 0);
        x.bear(0, 0);
        x.pass(0);
        due.is("none of these", x.undo(), HeartPins.NO);
        x.stick(0);
        x.wipe();
        x.forget();
        x.see(1, 0, 3);
        x.see(2, 0, 3);
        x.mark(3);
        x.mark(2);
        x.mark(1);
        x.write('q');
        x.write('q');
        x.write('q');
        x.write('q');
        x.keep();
        due.is("but the one ahead of them", x.undo(), 0);
        due.is("stuck no more", x.pin(0, 3), 0);
        due.is("seen still", x.count(8), 2);
        due.is("marked still", x.count(9), 3);
        due.is("kept still", x.count(11), 2);
        due.is("written still", x.count(12), 4);
        due.is("kept as it was", x.back(), 1);
        due.is("with the pin in the heart", x.pin(0, 3), 1);
    }
}
