/**
 * A heart of plush as a pincushion for the month: the family, the pins, the days, and what comes of them.
 *
 * All rows are made with the object and used again, since the calls of one run share one room:
 * no call makes an object or an array.
 */
public final class HeartPins {
    public static final int BAD = -1, NO = -2, FULL = -3, NONE = -4;

    private static final String FIRST_TEXT =
        "p12;p20;p9;p15;t0,0,5;t0,1,3;t1,2,9;t1,3,4;t2,1,6;t2,0,2;t3,3,7;t3,2,4;h10,4,9;";

    private static final int TEXT_MAX = 200;
    private static final int PERSONS_MAX = 5;
    private static final int PINS_MAX = 8;
    private static final int LARGE_MAX = 40;
    private static final int MORE_THAN_ALL = PINS_MAX * LARGE_MAX + 1;
    private static final int UNDO_MAX = 8;
    private static final int KEPT_MAX = 2;
    private static final int NOTES_MAX = 8;
    private static final int BAD_DAYS_MAX = 8;
    private static final int PASS_MAX = 24;
    private static final int AHEAD_MAX = 60;
    private static final int SOON_MAX = 20;
    private static final int Z_MAX = 9999;

    private static final int SHARP = 1, DULL = 2, ODD = 3, KINDS = 4;

    /** Where a pin is, if not with a person (whose number, 0 or more, stands there then). */
    private static final int IN_HEART = -1, SHAKEN_OUT = -2, GONE = -3, UNTOLD = -4;

    private final Letters text = new Letters();
    private final Family family = new Family();
    private final Family draft = new Family();
    private final Standing now = new Standing(family);
    private final Standing later = new Standing(family);
    private final Shelf past = new Shelf(family, UNDO_MAX);
    private final Shelf kept = new Shelf(family, KEPT_MAX);
    private final Notes notes = new Notes();
    private final Matching matching = new Matching();
    private final Sharing sharing = new Sharing();
    private final BadDays badDays = new BadDays(family);

    public HeartPins() {
        for (int i = 0; i < FIRST_TEXT.length(); i++) {
            text.add(FIRST_TEXT.charAt(i));
        }
        lay();
        text.clear();
    }

    // ---- families

    public int write(int letter) {
        if (!isWithin(letter, 32, 126)) {
            return BAD;
        }
        return text.add((char) letter) ? text.length : FULL;
    }

    public int wipe() {
        int length = text.length;
        text.clear();
        return length;
    }

    public int fault() {
        return text.readInto(draft);
    }

    public int lay() {
        if (text.readInto(draft) != NONE || draft.persons < 1) {
            return NO;
        }
        family.copyFrom(draft);
        now.begin();
        past.clear();
        kept.clear();
        notes.clear();
        return family.persons;
    }

    public int person(int p, int what) {
        if (!family.hasPerson(p)) {
            return BAD;
        }
        switch (what) {
            case 0: return family.bearableBy(p);
            case 1: return now.loadOf(p);
            case 2: return now.pinsWith(p);
            case 3: return now.isBroken(p) ? 1 : 0;
            default: return BAD;
        }
    }

    public int pin(int t, int what) {
        if (!family.hasPin(t)) {
            return BAD;
        }
        switch (what) {
            case 0: return family.ownerOf(t);
            case 1: return family.kindOf(t);
            case 2: return now.largeOf(t);
            case 3: return placeNumber(now.whereIs(t));
            case 4: return now.whereIs(t) >= 0 ? now.whereIs(t) : NONE;
            default: return BAD;
        }
    }

    public int heart(int what) {
        switch (what) {
            case 0: return family.room;
            case 1: return family.doorway;
            case 2: return family.rhythm;
            case 3: return now.steps;
            case 4: return now.heartSum();
            case 5: return now.isFull() ? 1 : 0;
            case 6: return now.isAtDoor() ? 1 : 0;
            default: return BAD;
        }
    }

    // ---- acts

    public int stick(int t) {
        if (!family.hasPin(t)) {
            return BAD;
        }
        if (!now.canStick(t)) {
            return NO;
        }
        past.put(now);
        now.stickIn(t);
        return now.heartSum();
    }

    public int feel(int t, int p) {
        if (!family.hasPin(t) || !family.hasPerson(p)) {
            return BAD;
        }
        if (!now.canFeel(t)) {
            return NO;
        }
        past.put(now);
        now.feelFor(t, p);
        return now.loadOf(p);
    }

    public int bear(int t, int p) {
        if (!family.hasPin(t) || !family.hasPerson(p)) {
            return BAD;
        }
        if (!now.canGive(t, p)) {
            return NO;
        }
        int before = now.whereIs(t);
        past.put(now);
        now.giveTo(t, p);
        return before;
    }

    public int pass(int n) {
        if (!isWithin(n, 1, PASS_MAX)) {
            return BAD;
        }
        past.put(now);
        now.goDays(n);
        return now.day;
    }

    public int undo() {
        return past.take(now) ? past.filled : NO;
    }

    // ---- what comes, what is best

    public int behind(int n, int p) {
        if (!isWithin(n, 0, AHEAD_MAX) || !family.hasPerson(p)) {
            return BAD;
        }
        lookBehind(n);
        return later.loadOf(p);
    }

    public int walked(int n) {
        if (!isWithin(n, 0, AHEAD_MAX)) {
            return BAD;
        }
        lookBehind(n);
        return later.steps;
    }

    public int breaks(int p) {
        if (!family.hasPerson(p)) {
            return BAD;
        }
        later.copyFrom(now);
        for (int n = 0; n <= AHEAD_MAX; n++) {
            if (later.isBroken(p)) {
                return n;
            }
            later.goDay();
        }
        return NONE;
    }

    public int door() {
        later.copyFrom(now);
        for (int n = 0; n <= AHEAD_MAX; n++) {
            if (later.isAtDoor()) {
                return n;
            }
            later.goDay();
        }
        return NONE;
    }

    public int best(int n, int what) {
        if (!isWithin(n, 0, SOON_MAX) || !isWithin(what, 0, 1)) {
            return BAD;
        }
        int set = bestSet(n);
        if (set < 0) {
            return NONE;
        }
        return what == 0 ? Integer.bitCount(set) : set;
    }

    public int share(int t) {
        if (t != -1 && !family.hasPin(t)) {
            return BAD;
        }
        sharing.find(now, family.persons);
        return t == -1 ? sharing.least : sharing.bearerOf(t);
    }

    public int relief(int what) {
        if (!isWithin(what, 0, 1)) {
            return BAD;
        }
        int best = NONE;
        int fewest = 0;
        for (int t = 0; t < PINS_MAX; t++) {
            if (now.whereIs(t) >= 0) {
                int breaking = now.breakingWithout(t);
                if (best < 0 || breaking < fewest
                    || breaking == fewest && now.largeOf(t) > now.largeOf(best)) {
                    best = t;
                    fewest = breaking;
                }
            }
        }
        return best < 0 || what == 0 ? best : fewest;
    }

    public int pair(int v) {
        if (!isWithin(v, 2, 80)) {
            return BAD;
        }
        for (int lower = 0; lower < PINS_MAX; lower++) {
            for (int other = lower + 1; other < PINS_MAX; other++) {
                if (now.isAbout(lower) && now.isAbout(other)
                    && now.largeOf(lower) + now.largeOf(other) == v) {
                    return 10 * lower + other;
                }
            }
        }
        return NONE;
    }

    // ---- what was seen

    public int see(int t, int n, int v) {
        if (!family.hasPin(t) || !isWithin(n, 0, SOON_MAX) || !isWithin(v, 0, LARGE_MAX)) {
            return BAD;
        }
        return notes.addSeen(t, n, v) ? notes.seen : FULL;
    }

    public int mark(int v) {
        if (!isWithin(v, 0, LARGE_MAX)) {
            return BAD;
        }
        return notes.addMark(v) ? notes.marked : FULL;
    }

    public int forget() {
        int were = notes.seen + notes.marked;
        notes.clear();
        return were;
    }

    public int kinds(int t) {
        if (!family.hasPin(t)) {
            return BAD;
        }
        int bits = 0;
        for (int kind = 0; kind < KINDS; kind++) {
            if (notes.allSeenFit(t, kind, now.largeOf(t), now.day)) {
                bits |= 1 << kind;
            }
        }
        return bits;
    }

    public int which(int n, int k) {
        if (!isWithin(n, 0, SOON_MAX) || !isWithin(k, -1, NOTES_MAX - 1)) {
            return BAD;
        }
        matching.find(now, notes, n);
        return k == -1 ? matching.ways : matching.pinMarked(k);
    }

    // ---- bad days, months

    public int bad(int p, int n, int x, int part) {
        if (!family.hasPerson(p) || !isWithin(n, 0, BAD_DAYS_MAX) || !isWithin(x, 0, 10) || !isWithin(part, 0, 1)) {
            return BAD;
        }
        long above = badDays.breakingOf(now, p, n, x);
        long below = BadDays.tenTo(n);
        long shared = greatestDivisor(above, below);
        if (shared < 1) {
            return BAD;
        }
        return (int) ((part == 0 ? above : below) / shared);
    }

    public int month(int z, int n, int what) {
        if (!isWithin(z, 0, Z_MAX) || !isWithin(n, 1, AHEAD_MAX) || !isWithin(what, 0, 1)) {
            return BAD;
        }
        later.copyFrom(now);
        for (int k = 0; k < n; k++) {
            actByDraw(later, drawOf(z, k));
            later.goDay();
        }
        return what == 0 ? later.borneSum() : later.steps;
    }

    public int keep() {
        if (kept.filled >= KEPT_MAX) {
            return FULL;
        }
        kept.put(now);
        return kept.filled;
    }

    public int back() {
        if (!kept.take(now)) {
            return NO;
        }
        past.clear();
        return kept.filled;
    }

    public int count(int what) {
        switch (what) {
            case 0: return family.persons;
            case 1: return family.pins;
            case 2: return now.day;
            case 3: return now.howManyBorne();
            case 4: return now.howManyAt(IN_HEART);
            case 5: return now.howManyAt(SHAKEN_OUT);
            case 6: return now.howManyAt(GONE);
            case 7: return now.howManyBreak();
            case 8: return notes.seen;
            case 9: return notes.marked;
            case 10: return past.filled;
            case 11: return kept.filled;
            case 12: return text.length;
            default: return BAD;
        }
    }

    // ---- helpers

    private static boolean isWithin(int number, int least, int most) {
        return number >= least && number <= most;
    }

    private static int placeNumber(int where) {
        switch (where) {
            case IN_HEART: return 1;
            case SHAKEN_OUT: return 2;
            case GONE: return 3;
            default: return 0;
        }
    }

    private void lookBehind(int n) {
        later.copyFrom(now);
        later.goDays(n);
    }

    /** The bits of the set to stick in, or NONE. */
    private int bestSet(int n) {
        int best = NONE;
        int fewest = PINS_MAX + 1;
        int borne = now.borneBits();
        // Sets come in ascending order, so the first one of a size is the lowest of it.
        for (int set = 0; set < 1 << PINS_MAX; set++) {
            int size = Integer.bitCount(set);
            if ((set & ~borne) == 0 && size < fewest && isCalmWith(set, n)) {
                best = set;
                fewest = size;
            }
        }
        return best;
    }

    private boolean isCalmWith(int set, int n) {
        later.copyFrom(now);
        for (int t = 0; t < PINS_MAX; t++) {
            if ((set >> t & 1) == 1) {
                later.stickIn(t);
            }
        }
        for (int i = 0; i < n; i++) {
            if (!later.isCalm()) {
                return false;
            }
            later.goDay();
        }
        return later.isCalm();
    }

    private static int drawOf(int z, int k) {
        long x = 7919L * z + 6151L * k + 1;
        return (int) (x * x % 65521);
    }

    private void actByDraw(Standing standing, int draw) {
        if (family.pins < 1 || family.persons < 1) {
            return;
        }
        int t = draw / 8 % family.pins;
        int p = draw / 64 % family.persons;
        int act = draw % 8;
        if (act <= 2) {
            standing.stickIn(t);
        } else if (act == 3) {
            standing.feelFor(t, p);
        } else if (act == 4) {
            standing.giveTo(t, p);
        }
    }

    private static long greatestDivisor(long a, long b) {
        // Two rounds halve a at least, and it is below 2 to the 63.
        for (int round = 0; round < 200 && b != 0; round++) {
            long rest = a % b;
            a = b;
            b = rest;
        }
        return a;
    }

    /** How large a pin is behind a day outside the heart; 0 is gone. */
    private static int largeBehindDay(int kind, int large, int day) {
        boolean grows = kind == SHARP || kind == ODD && day % 2 == 0;
        boolean shrinks = kind == DULL || kind == ODD && day % 2 != 0;
        if (grows) {
            return Math.min(LARGE_MAX, large + 1);
        }
        return shrinks ? large - 1 : large;
    }

    private static int largeBehind(int kind, int large, int day, int n) {
        int size = large;
        // What is gone stays gone, so nothing grows from 0.
        for (int i = 0; i < n && size > 0; i++) {
            size = largeBehindDay(kind, size, day + i);
        }
        return size;
    }

    /** What a text tells: who there is, with which pins, and the heart. */
    private static final class Family {
        final int[] bearable = new int[PERSONS_MAX];
        final int[] owner = new int[PINS_MAX];
        final int[] kind = new int[PINS_MAX];
        final int[] told = new int[PINS_MAX];
        int persons;
        int pins;
        int room;
        int doorway;
        int rhythm;

        void clear() {
            persons = 0;
            pins = 0;
            room = 12;
            doorway = 5;
            rhythm = 14;
        }

        void copyFrom(Family other) {
            persons = other.persons;
            pins = other.pins;
            room = other.room;
            doorway = other.doorway;
            rhythm = other.rhythm;
            for (int p = 0; p < PERSONS_MAX; p++) {
                bearable[p] = other.bearable[p];
            }
            for (int t = 0; t < PINS_MAX; t++) {
                owner[t] = other.owner[t];
                kind[t] = other.kind[t];
                told[t] = other.told[t];
            }
        }

        boolean addPerson(int b) {
            if (!isWithin(b, 0, 60) || !isWithin(persons, 0, PERSONS_MAX - 1)) {
                return false;
            }
            bearable[persons] = b;
            persons++;
            return true;
        }

        boolean addPin(int p, int k, int s) {
            if (!hasPerson(p) || !isWithin(k, 0, KINDS - 1) || !isWithin(s, 1, 20)
                || !isWithin(pins, 0, PINS_MAX - 1)) {
                return false;
            }
            owner[pins] = p;
            kind[pins] = k;
            told[pins] = s;
            pins++;
            return true;
        }

        boolean setHeart(int r, int d, int q) {
            if (!isWithin(r, 0, 60) || !isWithin(d, 1, 20) || !isWithin(q, 1, 30)) {
                return false;
            }
            room = r;
            doorway = d;
            rhythm = q;
            return true;
        }

        boolean hasPerson(int p) {
            return p >= 0 && p < persons && p < PERSONS_MAX;
        }

        boolean hasPin(int t) {
            return t >= 0 && t < pins && t < PINS_MAX;
        }

        int bearableBy(int p) {
            return p >= 0 && p < PERSONS_MAX ? bearable[p] : 0;
        }

        int ownerOf(int t) {
            return t >= 0 && t < PINS_MAX ? owner[t] : NONE;
        }

        int kindOf(int t) {
            return t >= 0 && t < PINS_MAX ? kind[t] : 0;
        }
    }

    /** THE TEXT, and how it is read. */
    private static final class Letters {
        final char[] letters = new char[TEXT_MAX];
        final int[] numbers = new int[3];
        int length;
        private int at;

        boolean add(char letter) {
            if (!isWithin(length, 0, TEXT_MAX - 1)) {
                return false;
            }
            letters[length] = letter;
            length++;
            return true;
        }

        void clear() {
            length = 0;
        }

        /** The place of the first item that is not so, or NONE; the family has all items ahead of it. */
        int readInto(Family read) {
            read.clear();
            at = 0;
            // An item has one letter at least, so there are no more items than letters.
            for (int items = 0; items < TEXT_MAX && at < length; items++) {
                int start = at;
                if (!readItem(read)) {
                    return start;
                }
            }
            return NONE;
        }

        private boolean readItem(Family read) {
            char name = letterAt(at);
            at++;
            switch (name) {
                case 'p': return readNumbers(1) && read.addPerson(numbers[0]);
                case 't': return readNumbers(3) && read.addPin(numbers[0], numbers[1], numbers[2]);
                case 'h': return readNumbers(3) && read.setHeart(numbers[0], numbers[1], numbers[2]);
                default: return false;
            }
        }

        private boolean readNumbers(int many) {
            for (int i = 0; i < many && i < numbers.length; i++) {
                numbers[i] = readNumber();
                char end = i == many - 1 ? ';' : ',';
                if (numbers[i] < 0 || letterAt(at) != end) {
                    return false;
                }
                at++;
            }
            return true;
        }

        /** A number of one or two figures, or -1. */
        private int readNumber() {
            int number = figureAt(at);
            if (number < 0) {
                return -1;
            }
            at++;
            int second = figureAt(at);
            if (second >= 0) {
                number = 10 * number + second;
                at++;
            }
            return number;
        }

        private int figureAt(int place) {
            char letter = letterAt(place);
            return letter >= '0' && letter <= '9' ? letter - '0' : -1;
        }

        /** The letter at a place; behind the text a sign that no item has. */
        private char letterAt(int place) {
            return place >= 0 && place < length && place < TEXT_MAX ? letters[place] : ' ';
        }
    }

    /** How the pins, the heart and the days stand at one time. */
    private static final class Standing {
        final Family family;
        final int[] large = new int[PINS_MAX];
        final int[] where = new int[PINS_MAX];
        int steps;
        int day;

        Standing(Family family) {
            this.family = family;
        }

        void begin() {
            for (int t = 0; t < PINS_MAX; t++) {
                boolean told = family.hasPin(t);
                large[t] = told ? family.told[t] : 0;
                where[t] = told ? family.owner[t] : UNTOLD;
            }
            steps = 0;
            day = 0;
        }

        void copyFrom(Standing other) {
            for (int t = 0; t < PINS_MAX; t++) {
                large[t] = other.large[t];
                where[t] = other.where[t];
            }
            steps = other.steps;
            day = other.day;
        }

        int largeOf(int t) {
            return t >= 0 && t < PINS_MAX ? large[t] : 0;
        }

        int whereIs(int t) {
            return t >= 0 && t < PINS_MAX ? where[t] : UNTOLD;
        }

        /** Whether a pin is with a person or in the heart. */
        boolean isAbout(int t) {
            return whereIs(t) >= IN_HEART;
        }

        int sumAt(int place) {
            int sum = 0;
            for (int t = 0; t < PINS_MAX; t++) {
                if (where[t] == place) {
                    sum += large[t];
                }
            }
            return sum;
        }

        int loadOf(int p) {
            return p >= 0 ? sumAt(p) : 0;
        }

        int heartSum() {
            return sumAt(IN_HEART);
        }

        int borneSum() {
            int sum = 0;
            for (int t = 0; t < PINS_MAX; t++) {
                if (where[t] >= 0) {
                    sum += large[t];
                }
            }
            return sum;
        }

        int pinsWith(int p) {
            int bits = 0;
            for (int t = 0; t < PINS_MAX; t++) {
                if (where[t] == p) {
                    bits |= 1 << t;
                }
            }
            return bits;
        }

        int borneBits() {
            int bits = 0;
            for (int t = 0; t < PINS_MAX; t++) {
                if (where[t] >= 0) {
                    bits |= 1 << t;
                }
            }
            return bits;
        }

        int howManyBorne() {
            return Integer.bitCount(borneBits());
        }

        int howManyAt(int place) {
            return Integer.bitCount(pinsWith(place));
        }

        boolean isBroken(int p) {
            return loadOf(p) > family.bearableBy(p);
        }

        int howManyBreak() {
            int many = 0;
            for (int p = 0; p < family.persons; p++) {
                if (isBroken(p)) {
                    many++;
                }
            }
            return many;
        }

        /** How many would break, were a pin not there. */
        int breakingWithout(int t) {
            if (t < 0 || t >= PINS_MAX) {
                return howManyBreak();
            }
            int place = where[t];
            where[t] = UNTOLD;
            int many = howManyBreak();
            where[t] = place;
            return many;
        }

        boolean isFull() {
            return heartSum() > family.room;
        }

        boolean isAtDoor() {
            return steps >= family.doorway;
        }

        boolean isCalm() {
            return !isAtDoor() && howManyBreak() == 0;
        }

        boolean canStick(int t) {
            return whereIs(t) >= 0 && !isAtDoor();
        }

        boolean canFeel(int t) {
            return whereIs(t) == IN_HEART;
        }

        boolean canGive(int t, int p) {
            return whereIs(t) >= 0 && where[t] != p;
        }

        void stickIn(int t) {
            if (canStick(t)) {
                where[t] = IN_HEART;
            }
        }

        void feelFor(int t, int p) {
            if (canFeel(t) && family.hasPerson(p)) {
                where[t] = p;
            }
        }

        void giveTo(int t, int p) {
            if (canGive(t, p) && family.hasPerson(p)) {
                where[t] = p;
            }
        }

        /** What a bad day does ahead of all that a day does. */
        void growBorne() {
            for (int t = 0; t < PINS_MAX; t++) {
                if (where[t] >= 0) {
                    large[t] = Math.min(LARGE_MAX, large[t] + 1);
                }
            }
        }

        void goDays(int n) {
            for (int i = 0; i < n; i++) {
                goDay();
            }
        }

        void goDay() {
            boolean full = isFull();
            for (int t = 0; t < PINS_MAX; t++) {
                if (where[t] >= IN_HEART) {
                    changePin(t, full && where[t] == IN_HEART);
                }
            }
            steps = full ? Math.min(family.doorway, steps + 1) : Math.max(0, steps - 1);
            day++;
            if (family.rhythm > 0 && day % family.rhythm == 0) {
                shakeOut();
            }
        }

        private void changePin(int t, boolean pressed) {
            if (t < 0 || t >= PINS_MAX) {
                return;
            }
            int size = largeBehindDay(family.kindOf(t), large[t], day);
            if (pressed) {
                size = Math.min(LARGE_MAX, size + 1);
            }
            large[t] = Math.max(0, size);
            if (size <= 0) {
                where[t] = GONE;
            }
        }

        private void shakeOut() {
            for (int t = 0; t < PINS_MAX; t++) {
                if (where[t] == IN_HEART) {
                    where[t] = SHAKEN_OUT;
                }
            }
            steps = 0;
        }
    }

    /** Standings one upon the other; where there is no place left, the oldest goes. */
    private static final class Shelf {
        private final Standing[] rows;
        int filled;

        Shelf(Family family, int places) {
            rows = new Standing[Math.max(0, places)];
            for (int i = 0; i < rows.length; i++) {
                rows[i] = new Standing(family);
            }
        }

        void clear() {
            filled = 0;
        }

        void put(Standing standing) {
            if (filled >= rows.length) {
                dropOldest();
            }
            Standing row = rowAt(filled);
            if (row != null) {
                row.copyFrom(standing);
                filled++;
            }
        }

        boolean take(Standing standing) {
            Standing row = rowAt(filled - 1);
            if (row == null) {
                return false;
            }
            standing.copyFrom(row);
            filled--;
            return true;
        }

        private Standing rowAt(int i) {
            return i >= 0 && i < rows.length ? rows[i] : null;
        }

        /** The oldest row comes to the end, to be written over. */
        private void dropOldest() {
            Standing oldest = rowAt(0);
            if (oldest == null) {
                return;
            }
            for (int i = 1; i < rows.length; i++) {
                rows[i - 1] = rows[i];
            }
            rows[rows.length - 1] = oldest;
            filled = rows.length - 1;
        }
    }

    /** What is SEEN and MARKED. */
    private static final class Notes {
        private final int[] seenPin = new int[NOTES_MAX];
        private final int[] seenDays = new int[NOTES_MAX];
        private final int[] seenLarge = new int[NOTES_MAX];
        private final int[] marks = new int[NOTES_MAX];
        int seen;
        int marked;

        void clear() {
            seen = 0;
            marked = 0;
        }

        boolean addSeen(int t, int n, int v) {
            if (!isWithin(seen, 0, NOTES_MAX - 1)) {
                return false;
            }
            seenPin[seen] = t;
            seenDays[seen] = n;
            seenLarge[seen] = v;
            seen++;
            return true;
        }

        boolean addMark(int v) {
            if (!isWithin(marked, 0, NOTES_MAX - 1)) {
                return false;
            }
            marks[marked] = v;
            marked++;
            return true;
        }

        int markAt(int k) {
            return k >= 0 && k < marked && k < NOTES_MAX ? marks[k] : NONE;
        }

        boolean allSeenFit(int t, int kind, int large, int day) {
            for (int i = 0; i < seen && i < NOTES_MAX; i++) {
                if (seenPin[i] == t && largeBehind(kind, large, day, seenDays[i]) != seenLarge[i]) {
                    return false;
                }
            }
            return true;
        }
    }

    /** Which pins the marked numbers were. */
    private static final class Matching {
        /** How large a borne pin is by then; NONE if it is not borne or stands for a mark already. */
        private final int[] open = new int[PINS_MAX];
        private final int[] first = new int[NOTES_MAX];
        private int marked;
        int ways;

        void find(Standing now, Notes notes, int n) {
            for (int t = 0; t < PINS_MAX; t++) {
                boolean borne = now.whereIs(t) >= 0;
                open[t] = borne ? largeBehind(now.family.kindOf(t), now.largeOf(t), now.day, n) : NONE;
            }
            marked = notes.marked;
            ways = now.howManyBorne() == marked ? 1 : 0;
            // Pins of one size can stand for one another: each mark takes the lowest one left,
            // and could take any one left, whatever the marks ahead of it took.
            for (int k = 0; k < marked && k < NOTES_MAX; k++) {
                ways *= takeLowest(k, notes.markAt(k));
            }
        }

        /** How many open pins are as large; the lowest of them stands for the k-th mark. */
        private int takeLowest(int k, int large) {
            int many = 0;
            int lowest = NONE;
            for (int t = PINS_MAX - 1; t >= 0; t--) {
                if (open[t] == large) {
                    many++;
                    lowest = t;
                }
            }
            if (lowest >= 0 && k >= 0 && k < NOTES_MAX) {
                first[k] = lowest;
                open[lowest] = NONE;
            }
            return many;
        }

        int pinMarked(int k) {
            return ways > 0 && k >= 0 && k < marked && k < NOTES_MAX ? first[k] : NONE;
        }
    }

    /** How all could be borne so that the most is least. */
    private static final class Sharing {
        private final int[] pins = new int[PINS_MAX];
        private final int[] sizes = new int[PINS_MAX];
        private final int[] tried = new int[PINS_MAX];
        private final int[] bearers = new int[PINS_MAX];
        private final int[] loads = new int[PERSONS_MAX];
        private int borne;
        private int persons;
        int least;

        void find(Standing now, int persons) {
            this.persons = persons;
            borne = 0;
            for (int t = 0; t < PINS_MAX; t++) {
                bearers[t] = NONE;
                if (now.whereIs(t) >= 0 && borne < PINS_MAX) {
                    pins[borne] = t;
                    sizes[borne] = now.largeOf(t);
                    borne++;
                }
            }
            for (int p = 0; p < PERSONS_MAX; p++) {
                loads[p] = 0;
            }
            least = MORE_THAN_ALL;
            tryFrom(this, 0, 0);
        }

        int bearerOf(int t) {
            return t >= 0 && t < PINS_MAX ? bearers[t] : NONE;
        }

        /** Goes through the ways in order, the first one of the least load stays. */
        private static void tryFrom(Sharing s, int depth, int greatest) {
            if (greatest >= s.least) {
                return;
            }
            if (depth < 0 || depth >= s.borne || depth >= PINS_MAX) {
                s.least = greatest;
                s.keepTried();
                return;
            }
            for (int p = 0; p < s.persons && p < PERSONS_MAX; p++) {
                if (!s.isLikeEarlier(p)) {
                    s.tried[depth] = p;
                    s.loads[p] += s.sizes[depth];
                    tryFrom(s, depth + 1, Math.max(greatest, s.loads[p]));
                    s.loads[p] -= s.sizes[depth];
                }
            }
        }

        /** With two who bear as much, the later one's ways are the earlier one's with the two changed about. */
        private boolean isLikeEarlier(int p) {
            for (int q = 0; q < p && q < PERSONS_MAX && p < PERSONS_MAX; q++) {
                if (loads[q] == loads[p]) {
                    return true;
                }
            }
            return false;
        }

        private void keepTried() {
            for (int i = 0; i < borne && i < PINS_MAX; i++) {
                int t = pins[i];
                if (t >= 0 && t < PINS_MAX) {
                    bearers[t] = tried[i];
                }
            }
        }
    }

    /** By how many of all draws of bad days somebody breaks. */
    private static final class BadDays {
        /** How it stands behind each day of the draws gone through now. */
        private final Standing[] ladder = new Standing[BAD_DAYS_MAX + 1];
        private int person;
        private int days;
        private int tenths;

        BadDays(Family family) {
            for (int i = 0; i < ladder.length; i++) {
                ladder[i] = new Standing(family);
            }
        }

        long breakingOf(Standing now, int p, int n, int x) {
            person = p;
            days = n;
            tenths = x;
            Standing start = rung(0);
            if (start == null) {
                return 0;
            }
            start.copyFrom(now);
            return breakingFrom(this, 0, 1);
        }

        static long tenTo(int n) {
            long power = 1;
            for (int i = 0; i < n && i < BAD_DAYS_MAX; i++) {
                power *= 10;
            }
            return power;
        }

        private Standing rung(int i) {
            return i >= 0 && i < ladder.length ? ladder[i] : null;
        }

        private static long breakingFrom(BadDays b, int day, long weight) {
            Standing from = b.rung(day);
            Standing next = b.rung(day + 1);
            if (day >= b.days || weight < 1 || from == null || next == null) {
                return 0;
            }
            long breaking = 0;
            for (int good = 0; good <= 1; good++) {
                long draws = weight * (good == 1 ? 10 - b.tenths : b.tenths);
                next.copyFrom(from);
                if (good == 0) {
                    next.growBorne();
                }
                next.goDay();
                if (next.isBroken(b.person)) {
                    breaking += draws * tenTo(b.days - day - 1);
                } else {
                    breaking += breakingFrom(b, day + 1, draws);
                }
            }
            return breaking;
        }
    }
}
