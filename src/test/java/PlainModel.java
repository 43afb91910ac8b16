import java.math.BigInteger;
import java.util.ArrayDeque;
import java.util.ArrayList;
import java.util.List;
import java.util.regex.Matcher;
import java.util.regex.Pattern;

/** The document once more, by the slowest and plainest way: every set, way and draw is gone through. */
final class PlainModel {
    static final int BAD = -1, NO = -2, FULL = -3, NONE = -4;

    enum Place { BORNE, HEART, OUT, GONE }

    static final class Pin {
        int owner, kind, size, bearer;
        Place place = Place.BORNE;

        Pin copy() {
            Pin pin = new Pin();
            pin.owner = owner;
            pin.kind = kind;
            pin.size = size;
            pin.bearer = bearer;
            pin.place = place;
            return pin;
        }
    }

    /** All as it stands, but what is SEEN, MARKED and THE TEXT. */
    static final class World {
        List<Integer> bears = new ArrayList<>();
        List<Pin> pins = new ArrayList<>();
        int room = 12, d = 5, q = 14, walked = 0, day = 0;

        World copy() {
            World w = new World();
            w.bears.addAll(bears);
            for (Pin pin : pins) {
                w.pins.add(pin.copy());
            }
            w.room = room;
            w.d = d;
            w.q = q;
            w.walked = walked;
            w.day = day;
            return w;
        }

        int load(int p) {
            return pins.stream().filter(x -> x.place == Place.BORNE && x.bearer == p).mapToInt(x -> x.size).sum();
        }

        boolean isBroken(int p) {
            return load(p) > bears.get(p);
        }

        int broken() {
            int many = 0;
            for (int p = 0; p < bears.size(); p++) {
                many += isBroken(p) ? 1 : 0;
            }
            return many;
        }

        int inHeart() {
            return pins.stream().filter(x -> x.place == Place.HEART).mapToInt(x -> x.size).sum();
        }

        boolean isFull() {
            return inHeart() > room;
        }

        boolean atDoor() {
            return walked == d;
        }

        void oneDay(boolean bad) {
            if (bad) {
                pins.stream().filter(x -> x.place == Place.BORNE).forEach(x -> x.size = Math.min(40, x.size + 1));
            }
            boolean full = isFull();
            for (Pin pin : pins) {
                if (pin.place == Place.OUT || pin.place == Place.GONE) {
                    continue;
                }
                pin.size += pin.kind == 1 ? 1 : pin.kind == 2 ? -1 : pin.kind == 3 ? (day % 2 == 0 ? 1 : -1) : 0;
                pin.size = Math.min(40, pin.size);
                if (full && pin.place == Place.HEART) {
                    pin.size = Math.min(40, pin.size + 1);
                }
                if (pin.size <= 0) {
                    pin.size = 0;
                    pin.place = Place.GONE;
                }
            }
            walked = full ? Math.min(d, walked + 1) : Math.max(0, walked - 1);
            day++;
            if (day % q == 0) {
                pins.stream().filter(x -> x.place == Place.HEART).forEach(x -> x.place = Place.OUT);
                walked = 0;
            }
        }

        World behind(int n) {
            World w = copy();
            for (int i = 0; i < n; i++) {
                w.oneDay(false);
            }
            return w;
        }
    }

    StringBuilder text = new StringBuilder("p12;p20;p9;p15;t0,0,5;t0,1,3;t1,2,9;t1,3,4;t2,1,6;t2,0,2;t3,3,7;t3,2,4;h10,4,9;");
    World w = new World();
    ArrayDeque<World> past = new ArrayDeque<>();
    ArrayDeque<World> kept = new ArrayDeque<>();
    List<int[]> seen = new ArrayList<>();
    List<Integer> marked = new ArrayList<>();

    PlainModel() {
        lay();
        text.setLength(0);
    }

    int write(int letter) {
        if (letter < 32 || letter > 126) {
            return BAD;
        }
        if (text.length() == 200) {
            return FULL;
        }
        text.append((char) letter);
        return text.length();
    }

    int wipe() {
        int n = text.length();
        text.setLength(0);
        return n;
    }

    private static final String N = "([0-9][0-9]?)";
    private static final Pattern PERSON = Pattern.compile("p" + N + ";");
    private static final Pattern PIN = Pattern.compile("t" + N + "," + N + "," + N + ";");
    private static final Pattern HEART = Pattern.compile("h" + N + "," + N + "," + N + ";");

    /** The family that the text tells; fault[0] is the first fault. */
    private World read(int[] fault) {
        World r = new World();
        String s = text.toString();
        int at = 0;
        fault[0] = NONE;
        while (at < s.length()) {
            Matcher p = PERSON.matcher(s).region(at, s.length());
            Matcher t = PIN.matcher(s).region(at, s.length());
            Matcher h = HEART.matcher(s).region(at, s.length());
            boolean right = false;
            int end = at;
            if (p.lookingAt()) {
                int b = Integer.parseInt(p.group(1));
                right = b <= 60 && r.bears.size() < 5;
                r.bears.add(b);
                end = p.end();
            } else if (t.lookingAt()) {
                Pin pin = new Pin();
                pin.owner = Integer.parseInt(t.group(1));
                pin.bearer = pin.owner;
                pin.kind = Integer.parseInt(t.group(2));
                pin.size = Integer.parseInt(t.group(3));
                right = pin.owner < r.bears.size() && pin.kind <= 3 && pin.size >= 1 && pin.size <= 20 && r.pins.size() < 8;
                r.pins.add(pin);
                end = t.end();
            } else if (h.lookingAt()) {
                r.room = Integer.parseInt(h.group(1));
                r.d = Integer.parseInt(h.group(2));
                r.q = Integer.parseInt(h.group(3));
                right = r.room <= 60 && r.d >= 1 && r.d <= 20 && r.q >= 1 && r.q <= 30;
                end = h.end();
            }
            if (!right) {
                fault[0] = at;
                return r;
            }
            at = end;
        }
        return r;
    }

    int fault() {
        int[] fault = new int[1];
        read(fault);
        return fault[0];
    }

    int lay() {
        int[] fault = new int[1];
        World r = read(fault);
        if (fault[0] != NONE || r.bears.isEmpty()) {
            return NO;
        }
        w = r;
        past.clear();
        kept.clear();
        seen.clear();
        marked.clear();
        return w.bears.size();
    }

    private boolean noPerson(int p) {
        return p < 0 || p >= w.bears.size();
    }

    private boolean noPin(int t) {
        return t < 0 || t >= w.pins.size();
    }

    private static boolean out(int x, int least, int most) {
        return x < least || x > most;
    }

    int person(int p, int what) {
        if (noPerson(p) || out(what, 0, 3)) {
            return BAD;
        }
        int bits = 0;
        for (int t = 0; t < w.pins.size(); t++) {
            if (w.pins.get(t).place == Place.BORNE && w.pins.get(t).bearer == p) {
                bits += 1 << t;
            }
        }
        return new int[] {w.bears.get(p), w.load(p), bits, w.isBroken(p) ? 1 : 0}[what];
    }

    int pin(int t, int what) {
        if (noPin(t) || out(what, 0, 4)) {
            return BAD;
        }
        Pin x = w.pins.get(t);
        return new int[] {x.owner, x.kind, x.size, x.place.ordinal(), x.place == Place.BORNE ? x.bearer : NONE}[what];
    }

    int heart(int what) {
        if (out(what, 0, 6)) {
            return BAD;
        }
        return new int[] {w.room, w.d, w.q, w.walked, w.inHeart(), w.isFull() ? 1 : 0, w.atDoor() ? 1 : 0}[what];
    }

    private void remember() {
        past.addLast(w.copy());
        if (past.size() > 8) {
            past.removeFirst();
        }
    }

    int stick(int t) {
        if (noPin(t)) {
            return BAD;
        }
        if (w.pins.get(t).place != Place.BORNE || w.atDoor()) {
            return NO;
        }
        remember();
        w.pins.get(t).place = Place.HEART;
        return w.inHeart();
    }

    int feel(int t, int p) {
        if (noPin(t) || noPerson(p)) {
            return BAD;
        }
        if (w.pins.get(t).place != Place.HEART) {
            return NO;
        }
        remember();
        w.pins.get(t).place = Place.BORNE;
        w.pins.get(t).bearer = p;
        return w.load(p);
    }

    int bear(int t, int p) {
        if (noPin(t) || noPerson(p)) {
            return BAD;
        }
        if (w.pins.get(t).place != Place.BORNE || w.pins.get(t).bearer == p) {
            return NO;
        }
        remember();
        int who = w.pins.get(t).bearer;
        w.pins.get(t).bearer = p;
        return who;
    }

    int pass(int n) {
        if (out(n, 1, 24)) {
            return BAD;
        }
        remember();
        w = w.behind(n);
        return w.day;
    }

    int undo() {
        if (past.isEmpty()) {
            return NO;
        }
        w = past.removeLast();
        return past.size();
    }

    int behind(int n, int p) {
        return out(n, 0, 60) || noPerson(p) ? BAD : w.behind(n).load(p);
    }

    int walked(int n) {
        return out(n, 0, 60) ? BAD : w.behind(n).walked;
    }

    int breaks(int p) {
        if (noPerson(p)) {
            return BAD;
        }
        for (int n = 0; n <= 60; n++) {
            if (w.behind(n).isBroken(p)) {
                return n;
            }
        }
        return NONE;
    }

    int door() {
        for (int n = 0; n <= 60; n++) {
            if (w.behind(n).atDoor()) {
                return n;
            }
        }
        return NONE;
    }

    int best(int n, int what) {
        if (out(n, 0, 20) || out(what, 0, 1)) {
            return BAD;
        }
        for (int many = 0; many <= w.pins.size(); many++) {
            for (int set = 0; set < 1 << w.pins.size(); set++) {
                if (Integer.bitCount(set) == many && holds(set, n)) {
                    return what == 0 ? many : set;
                }
            }
        }
        return NONE;
    }

    private boolean holds(int set, int n) {
        World x = w.copy();
        for (int t = 0; t < x.pins.size(); t++) {
            if ((set & 1 << t) != 0) {
                if (x.pins.get(t).place != Place.BORNE) {
                    return false;
                }
                x.pins.get(t).place = Place.HEART;
            }
        }
        for (int i = 0; i <= n; i++) {
            if (x.atDoor() || x.broken() > 0) {
                return false;
            }
            x.oneDay(false);
        }
        return true;
    }

    private List<Integer> borne() {
        List<Integer> borne = new ArrayList<>();
        for (int t = 0; t < w.pins.size(); t++) {
            if (w.pins.get(t).place == Place.BORNE) {
                borne.add(t);
            }
        }
        return borne;
    }

    int share(int t) {
        if (t != -1 && noPin(t)) {
            return BAD;
        }
        List<Integer> borne = borne();
        int n = w.bears.size();
        int ways = 1;
        for (int i = 0; i < borne.size(); i++) {
            ways *= n;
        }
        int least = Integer.MAX_VALUE;
        int[] first = null;
        for (int way = 0; way < ways; way++) {
            int[] by = new int[borne.size()];
            int[] loads = new int[n];
            int rest = way;
            for (int i = borne.size() - 1; i >= 0; i--) {
                by[i] = rest % n;
                rest /= n;
                loads[by[i]] += w.pins.get(borne.get(i)).size;
            }
            int most = 0;
            for (int load : loads) {
                most = Math.max(most, load);
            }
            if (most < least) {
                least = most;
                first = by;
            }
        }
        if (t == -1) {
            return least;
        }
        return borne.contains(t) ? first[borne.indexOf(t)] : NONE;
    }

    int relief(int what) {
        if (out(what, 0, 1)) {
            return BAD;
        }
        int[] best = null;
        for (int t : borne()) {
            World x = w.copy();
            x.pins.get(t).place = Place.GONE;
            int[] now = {x.broken(), -w.pins.get(t).size, t};
            if (best == null || java.util.Arrays.compare(now, best) < 0) {
                best = now;
            }
        }
        return best == null ? NONE : what == 0 ? best[2] : best[0];
    }

    int pair(int v) {
        if (out(v, 2, 80)) {
            return BAD;
        }
        for (int code = 1; code < 78; code++) {
            int a = code / 10, b = code % 10;
            if (a < b && b < w.pins.size()) {
                Pin x = w.pins.get(a), y = w.pins.get(b);
                if (x.place.ordinal() < 2 && y.place.ordinal() < 2 && x.size + y.size == v) {
                    return code;
                }
            }
        }
        return NONE;
    }

    int see(int t, int n, int v) {
        if (noPin(t) || out(n, 0, 20) || out(v, 0, 40)) {
            return BAD;
        }
        if (seen.size() == 8) {
            return FULL;
        }
        seen.add(new int[] {t, n, v});
        return seen.size();
    }

    int mark(int v) {
        if (out(v, 0, 40)) {
            return BAD;
        }
        if (marked.size() == 8) {
            return FULL;
        }
        marked.add(v);
        return marked.size();
    }

    int forget() {
        int were = seen.size() + marked.size();
        seen.clear();
        marked.clear();
        return were;
    }

    /** A world of this one pin alone, borne all the while. */
    private int sizeBorne(Pin from, int kind, int n) {
        if (from.place == Place.GONE) {
            return 0;
        }
        World x = new World();
        x.day = w.day;
        x.bears.add(60);
        Pin pin = from.copy();
        pin.kind = kind;
        pin.place = Place.BORNE;
        pin.bearer = 0;
        x.pins.add(pin);
        return x.behind(n).pins.get(0).size;
    }

    int kinds(int t) {
        if (noPin(t)) {
            return BAD;
        }
        int bits = 0;
        for (int kind = 0; kind < 4; kind++) {
            boolean all = true;
            for (int[] s : seen) {
                all &= s[0] != t || sizeBorne(w.pins.get(t), kind, s[1]) == s[2];
            }
            bits += all ? 1 << kind : 0;
        }
        return bits;
    }

    int which(int n, int k) {
        if (out(n, 0, 20) || out(k, -1, 7)) {
            return BAD;
        }
        List<Integer> borne = borne();
        int[] sizes = new int[w.pins.size()];
        for (int t : borne) {
            sizes[t] = sizeBorne(w.pins.get(t), w.pins.get(t).kind, n);
        }
        List<int[]> first = new ArrayList<>();
        int ways = marked.size() != borne.size() ? 0 : waysFrom(0, borne, sizes, new int[marked.size()], first);
        if (k == -1) {
            return ways;
        }
        return ways == 0 || k >= marked.size() ? NONE : first.get(0)[k];
    }

    private int waysFrom(int i, List<Integer> left, int[] sizes, int[] taken, List<int[]> first) {
        if (i == marked.size()) {
            if (first.isEmpty()) {
                first.add(taken.clone());
            }
            return 1;
        }
        int ways = 0;
        for (int t : left) {
            if (sizes[t] == marked.get(i)) {
                List<Integer> rest = new ArrayList<>(left);
                rest.remove(Integer.valueOf(t));
                taken[i] = t;
                ways += waysFrom(i + 1, rest, sizes, taken, first);
            }
        }
        return ways;
    }

    int bad(int p, int n, int x, int part) {
        if (noPerson(p) || out(n, 0, 8) || out(x, 0, 10) || out(part, 0, 1)) {
            return BAD;
        }
        BigInteger above = BigInteger.ZERO;
        for (int draws = 0; draws < 1 << n; draws++) {
            World v = w.copy();
            boolean broke = false;
            BigInteger weight = BigInteger.ONE;
            for (int i = 0; i < n; i++) {
                boolean bad = (draws & 1 << i) != 0;
                weight = weight.multiply(BigInteger.valueOf(bad ? x : 10 - x));
                v.oneDay(bad);
                broke |= v.isBroken(p);
            }
            if (broke) {
                above = above.add(weight);
            }
        }
        BigInteger below = BigInteger.TEN.pow(n);
        BigInteger shared = above.gcd(below);
        return (part == 0 ? above : below).divide(shared).intValueExact();
    }

    int month(int z, int n, int what) {
        if (out(z, 0, 9999) || out(n, 1, 60) || out(what, 0, 1)) {
            return BAD;
        }
        PlainModel m = new PlainModel();
        m.w = w.copy();
        for (int k = 0; k < n; k++) {
            BigInteger x = BigInteger.valueOf(7919L * z + 6151L * k + 1);
            int draw = x.multiply(x).mod(BigInteger.valueOf(65521)).intValueExact();
            if (!m.w.pins.isEmpty()) {
                int t = draw / 8 % m.w.pins.size();
                int p = draw / 64 % m.w.bears.size();
                switch (draw % 8) {
                    case 0, 1, 2 -> m.stick(t);
                    case 3 -> m.feel(t, p);
                    case 4 -> m.bear(t, p);
                    default -> { }
                }
            }
            m.pass(1);
        }
        int loads = 0;
        for (int p = 0; p < w.bears.size(); p++) {
            loads += m.w.load(p);
        }
        return what == 0 ? loads : m.w.walked;
    }

    int keep() {
        if (kept.size() == 2) {
            return FULL;
        }
        kept.addLast(w.copy());
        return kept.size();
    }

    int back() {
        if (kept.isEmpty()) {
            return NO;
        }
        w = kept.removeLast();
        past.clear();
        return kept.size();
    }

    private int at(Place place) {
        return (int) w.pins.stream().filter(x -> x.place == place).count();
    }

    int count(int what) {
        if (out(what, 0, 12)) {
            return BAD;
        }
        return new int[] {w.bears.size(), w.pins.size(), w.day, at(Place.BORNE), at(Place.HEART), at(Place.OUT), at(Place.GONE),
            w.broken(), seen.size(), marked.size(), past.size(), kept.size(), text.length()}[what];
    }
}
