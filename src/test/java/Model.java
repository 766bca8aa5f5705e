import java.math.BigInteger;
import java.util.ArrayList;
import java.util.HashSet;
import java.util.List;
import java.util.Set;

/** The document once more, in its slowest and plainest form: all rows are tried, nothing is packed. */
final class Model {
    static final int UNKNOWN = -1, OUTSIDE = -2, STATE = -3, FULL = -4, NO = -5, NONE = -6;
    static final long GONE = -1000000000000000000L;

    /** A wheel: by pail where it is, what it holds and leaks; by door what it wants, whether it is served. */
    static final class Wheel implements Cloneable {
        int n = 6;
        int deep = 6;
        int[] place;
        int[] holds;
        int[] leak;
        int[] want;
        boolean[] served;
        int drawn, leaked, drunk, servings;

        Wheel(int n, int deep) {
            this.n = n;
            this.deep = deep;
            place = new int[n];
            holds = new int[n];
            leak = new int[n];
            want = new int[n];
            served = new boolean[n];
            for (int k = 0; k < n; k++) {
                place[k] = k;
                served[k] = true;
            }
            holds[0] = deep;
        }

        Wheel copy() {
            Wheel w = new Wheel(n, deep);
            w.place = place.clone();
            w.holds = holds.clone();
            w.leak = leak.clone();
            w.want = want.clone();
            w.served = served.clone();
            return w;
        }

        Wheel counting(Wheel from) {
            drawn = from.drawn;
            leaked = from.leaked;
            drunk = from.drunk;
            servings = from.servings;
            return this;
        }

        int pailAt(int p) {
            for (int k = 0; k < n; k++) {
                if (place[k] == p) {
                    return k;
                }
            }
            throw new IllegalStateException();
        }

        Wheel pull(char sign) {
            Wheel w = copy().counting(this);
            for (int k = 0; k < n; k++) {
                if (sign == '+') {
                    w.place[k] = (place[k] + 1) % n;
                } else if (sign == '-') {
                    w.place[k] = (place[k] + n - 1) % n;
                }
            }
            for (int k = 0; k < n; k++) {
                int out = Math.min(w.leak[k], w.holds[k]);
                w.holds[k] -= out;
                w.leaked += out;
            }
            int atWell = w.pailAt(0);
            w.drawn += w.deep - w.holds[atWell];
            w.holds[atWell] = w.deep;
            for (int d = 0; d < n; d++) {
                int there = w.pailAt(d);
                if (!w.served[d] && w.want[d] <= w.holds[there]) {
                    w.holds[there] -= w.want[d];
                    w.served[d] = true;
                    w.drunk += w.want[d];
                    w.servings++;
                }
            }
            return w;
        }

        Wheel pulls(String row) {
            Wheel w = this;
            for (char c : row.toCharArray()) {
                w = w.pull(c);
            }
            return w;
        }

        boolean all() {
            for (boolean b : served) {
                if (!b) {
                    return false;
                }
            }
            return true;
        }

        boolean has(int door) {
            return door == -1 ? all() : served[door];
        }

        int bits() {
            int b = 0;
            for (int k = 0; k < n; k++) {
                b |= served[k] ? 1 << k : 0;
            }
            return b;
        }
    }

    record Sight(int behind, int door, boolean served) { }

    record Kept(Wheel wheel, List<String> words, List<Sight> sights) { }

    Wheel wheel = new Wheel(6, 6);
    String pad = "";
    List<String> words = new ArrayList<>();
    List<Sight> sights = new ArrayList<>();
    Kept[] images = new Kept[2];

    boolean there(int k) {
        return k >= 0 && k < wheel.n;
    }

    int places(int n) {
        if (n < 3 || n > 9) {
            return OUTSIDE;
        }
        int was = wheel.n;
        wheel = new Wheel(n, wheel.deep);
        sights.clear();
        return was;
    }

    int pail(int pail, int what, int v) {
        if (!there(pail)) {
            return UNKNOWN;
        }
        if (what != 0 && what != 1) {
            return OUTSIDE;
        }
        if (v < 0 || what == 0 && v > wheel.deep || what == 1 && v > 9) {
            return OUTSIDE;
        }
        int[] row = what == 0 ? wheel.holds : wheel.leak;
        int was = row[pail];
        row[pail] = v;
        return was;
    }

    int door(int door, int v) {
        if (!there(door)) {
            return UNKNOWN;
        }
        if (v < 0 || v > 9) {
            return OUTSIDE;
        }
        int was = wheel.want[door];
        wheel.want[door] = v;
        wheel.served[door] = v == 0;
        return was;
    }

    int deep(int v) {
        if (v < 1 || v > 9) {
            return OUTSIDE;
        }
        for (int h : wheel.holds) {
            if (h > v) {
                return STATE;
            }
        }
        int was = wheel.deep;
        wheel.deep = v;
        return was;
    }

    int say(int sign) {
        if (sign < 33 || sign > 126) {
            return OUTSIDE;
        }
        if (pad.length() == 40) {
            return FULL;
        }
        pad += (char) sign;
        return pad.length();
    }

    int wipe() {
        int was = pad.length();
        pad = "";
        return was;
    }

    int fault() {
        for (int k = 0; k < pad.length(); k++) {
            if ("+-.".indexOf(pad.charAt(k)) < 0) {
                return k;
            }
        }
        return NONE;
    }

    int pull() {
        if (fault() != NONE) {
            return NO;
        }
        int before = wheel.bits();
        wheel = wheel.copy().pulls(pad).copy();
        pad = "";
        return wheel.bits() & ~before;
    }

    int behind(int pail, int what) {
        if (!there(pail)) {
            return UNKNOWN;
        }
        if (what != 0 && what != 1) {
            return OUTSIDE;
        }
        if (fault() != NONE) {
            return NO;
        }
        Wheel w = wheel.copy().pulls(pad);
        return what == 0 ? w.place[pail] : w.holds[pail];
    }

    int after(int what) {
        if (what < 0 || what > 3 && (what < 10 || !there(what - 10))) {
            return OUTSIDE;
        }
        if (fault() != NONE) {
            return NO;
        }
        Wheel w = wheel.copy().pulls(pad);
        switch (what) {
            case 0: return w.bits();
            case 1: return w.drawn;
            case 2: return w.leaked;
            case 3: return w.drunk;
            default:
                for (int k = 0; k <= pad.length(); k++) {
                    if (wheel.copy().pulls(pad.substring(0, k)).served[what - 10]) {
                        return k;
                    }
                }
                return NONE;
        }
    }

    /** The first row of just so many signs, or null. */
    static String rowOf(Wheel w, int door, int left) {
        if (left == 0) {
            return w.has(door) ? "" : null;
        }
        for (char c : new char[] {'+', '-'}) {
            String rest = rowOf(w.pull(c), door, left - 1);
            if (rest != null) {
                return c + rest;
            }
        }
        return null;
    }

    static String shortest(Wheel w, int door, int most) {
        for (int k = 0; k <= most; k++) {
            String row = rowOf(w, door, k);
            if (row != null) {
                return row;
            }
        }
        return null;
    }

    int fewest(int i) {
        String row = shortest(wheel, -1, 14);
        if (row == null) {
            return NONE;
        }
        return i == -1 ? row.length() : i < 0 || i >= row.length() ? NONE : row.charAt(i);
    }

    int soon(int door) {
        if (!there(door)) {
            return UNKNOWN;
        }
        String row = shortest(wheel, door, 14);
        return row == null ? NONE : row.length();
    }

    static void orders(int n, List<Integer> so, List<List<Integer>> all) {
        if (so.size() == n) {
            all.add(new ArrayList<>(so));
            return;
        }
        for (int k = 0; k < n; k++) {
            if (!so.contains(k)) {
                so.add(k);
                orders(n, so, all);
                so.remove(so.size() - 1);
            }
        }
    }

    int hung(int i) {
        if (wheel.n > 6) {
            return FULL;
        }
        List<List<Integer>> all = new ArrayList<>();
        orders(wheel.n, new ArrayList<>(), all);
        int best = 9;
        List<Integer> bestOrder = null;
        for (List<Integer> order : all) {
            Wheel w = wheel.copy();
            for (int p = 0; p < w.n; p++) {
                w.place[order.get(p)] = p;
                w.holds[order.get(p)] = p == 0 ? w.deep : 0;
            }
            String row = shortest(w, -1, best - 1);
            if (row != null) {
                best = row.length();
                bestOrder = order;
            }
        }
        if (bestOrder == null) {
            return NONE;
        }
        return i == -1 ? best : i < 0 || i >= wheel.n ? NONE : bestOrder.get(i);
    }

    /** 1: the first door is sure to be ahead; -1: the second one is; 0: neither. */
    static int value(Wheel w, int first, int second, int left, boolean firstPulls) {
        if (w.served[first] || w.served[second]) {
            return (w.served[first] ? 1 : 0) - (w.served[second] ? 1 : 0);
        }
        if (left == 0) {
            return 0;
        }
        int best = firstPulls ? -1 : 1;
        for (char c : "+-.".toCharArray()) {
            int v = value(w.pull(c), first, second, left - 1, !firstPulls);
            best = firstPulls ? Math.max(best, v) : Math.min(best, v);
        }
        return best;
    }

    int race(int door, int other, int m) {
        if (!there(door) || !there(other) || door == other) {
            return UNKNOWN;
        }
        if (m < 1 || m > 10) {
            return OUTSIDE;
        }
        if (wheel.served[door] || wheel.served[other]) {
            return STATE;
        }
        int v = value(wheel, door, other, m, true);
        return v == 1 ? 0 : v == -1 ? 1 : 2;
    }

    long widow(int m, int p, int q, int door, int part) {
        if (door != -1 && !there(door)) {
            return GONE + UNKNOWN;
        }
        if (m < 0 || m > 12 || q < 1 || q > 10 || p < 0 || p > q || part < 0 || part > 1) {
            return GONE + OUTSIDE;
        }
        BigInteger upper = BigInteger.ZERO;
        for (int row = 0; row < 1 << m; row++) {
            Wheel w = wheel;
            BigInteger weight = BigInteger.ONE;
            for (int k = 0; k < m; k++) {
                boolean plus = (row >> k & 1) == 0;
                w = w.pull(plus ? '+' : '-');
                weight = weight.multiply(BigInteger.valueOf(plus ? p : q - p));
            }
            if (w.has(door)) {
                upper = upper.add(weight);
            }
        }
        BigInteger lower = BigInteger.valueOf(q).pow(m);
        BigInteger g = upper.gcd(lower);
        return (part == 0 ? upper : lower).divide(g).longValueExact();
    }

    int word() {
        if (!pad.matches("[-+]{1,8}") || words.contains(pad)) {
            return NO;
        }
        if (words.size() == 8) {
            return FULL;
        }
        words.add(pad);
        pad = "";
        return words.size();
    }

    int drop() {
        int was = words.size();
        words.clear();
        return was;
    }

    int apart(int what) {
        switch (what) {
            case 0:
                for (String a : words) {
                    for (String b : words) {
                        if (!a.equals(b) && a.startsWith(b)) {
                            return 0;
                        }
                    }
                }
                return 1;
            case 1: return doubt() == NONE ? 1 : 0;
            case 2: return doubt();
            default: return OUTSIDE;
        }
    }

    /** Texts of up to 14 signs by trying all of them; longer ones by two rows that go on sign by sign. */
    int doubt() {
        List<Set<String>> byLength = new ArrayList<>();
        byLength.add(Set.of(""));
        for (int length = 1; length <= 14; length++) {
            Set<String> texts = new HashSet<>();
            for (String w : words) {
                if (w.length() <= length) {
                    for (String text : byLength.get(length - w.length())) {
                        if (!texts.add(text + w)) {
                            return length;
                        }
                    }
                }
            }
            byLength.add(texts);
        }
        return doubtSignBySign();
    }

    /** What is left of the WORD that each of two rows stands in, and whether the rows are unlike so far. */
    record Pair(String one, String other, boolean unlike) { }

    int doubtSignBySign() {
        Set<Pair> reached = new HashSet<>();
        Set<Pair> now = Set.of(new Pair("", "", false));
        for (int signs = 0; !now.isEmpty(); signs++) {
            if (now.contains(new Pair("", "", true))) {
                return signs;
            }
            Set<Pair> next = new HashSet<>();
            for (Pair pair : now) {
                oneSignOn(pair, next);
            }
            next.removeAll(reached);
            reached.addAll(next);
            now = next;
        }
        return NONE;
    }

    /** A row whose WORD is at its end takes any WORD; both rows must have the same sign next. */
    private void oneSignOn(Pair pair, Set<Pair> next) {
        boolean bothBegin = pair.one().isEmpty() && pair.other().isEmpty();
        for (String a : pair.one().isEmpty() ? words : List.of(pair.one())) {
            for (String b : pair.other().isEmpty() ? words : List.of(pair.other())) {
                boolean oneBegins = pair.one().isEmpty() != pair.other().isEmpty();
                boolean unlike = pair.unlike() || oneBegins || bothBegin && !a.equals(b);
                if (a.charAt(0) == b.charAt(0)) {
                    next.add(new Pair(a.substring(1), b.substring(1), unlike));
                }
            }
        }
    }

    int seen(int behind, int door, boolean served) {
        if (!there(door)) {
            return UNKNOWN;
        }
        if (behind < 0 || behind > 10) {
            return OUTSIDE;
        }
        if (sights.size() == 6) {
            return FULL;
        }
        sights.add(new Sight(behind, door, served));
        return sights.size();
    }

    int forget() {
        int was = sights.size();
        sights.clear();
        return was;
    }

    private int count;
    private String first;
    private int[] could;

    private void fit(Wheel w, String row, int m) {
        for (Sight s : sights) {
            if (s.behind() == row.length() && s.behind() <= m && w.served[s.door()] != s.served()) {
                return;
            }
        }
        if (row.length() == m) {
            count++;
            if (first == null) {
                first = row;
            }
            for (int k = 0; k < m; k++) {
                could[k] |= 1 << "+-.".indexOf(row.charAt(k));
            }
            return;
        }
        for (char c : "+-.".toCharArray()) {
            fit(w.pull(c), row + c, m);
        }
    }

    private void fit(int m) {
        count = 0;
        first = null;
        could = new int[m];
        fit(wheel, "", m);
    }

    int came(int m, int i) {
        if (m < 0 || m > 10) {
            return OUTSIDE;
        }
        fit(m);
        if (i == -1) {
            return count;
        }
        return first == null || i < 0 || i >= m ? NONE : first.charAt(i);
    }

    int could(int m, int i) {
        if (m < 0 || m > 10 || i < 0 || i > m - 1) {
            return OUTSIDE;
        }
        fit(m);
        return first == null ? NONE : could[i];
    }

    int day(int seed, int m, int what) {
        if (seed < 0 || seed > 9999 || m < 1 || m > 99 || what < 0 || what > 1) {
            return OUTSIDE;
        }
        long x = seed;
        Wheel w = wheel.copy();
        for (int k = 0; k < m; k++) {
            x = (75 * x + 74) % 65537;
            if (x % 7 == 0) {
                for (int d = 0; d < w.n; d++) {
                    w.served[d] = w.want[d] == 0;
                }
            }
            w = w.pull("+-.".charAt((int) (x % 3)));
        }
        return what == 0 ? w.servings : w.drawn;
    }

    int image(int n) {
        if (n != 0 && n != 1) {
            return OUTSIDE;
        }
        images[n] = new Kept(wheel.copy(), List.copyOf(words), List.copyOf(sights));
        return 1;
    }

    int restore(int n) {
        if (n != 0 && n != 1) {
            return OUTSIDE;
        }
        if (images[n] == null) {
            return STATE;
        }
        wheel = images[n].wheel().copy();
        words = new ArrayList<>(images[n].words());
        sights = new ArrayList<>(images[n].sights());
        return 1;
    }

    int told(int what) {
        switch (what) {
            case 0: return pad.length();
            case 1: return wheel.n;
            case 2: return wheel.deep;
            case 3: return wheel.bits();
            case 4: return words.size();
            case 5: return sights.size();
            default:
        }
        if (what < 10 || what >= 50 || !there(what % 10)) {
            return OUTSIDE;
        }
        int k = what % 10;
        switch (what / 10) {
            case 1: return wheel.place[k];
            case 2: return wheel.holds[k];
            case 3: return wheel.leak[k];
            default: return wheel.want[k];
        }
    }
}
