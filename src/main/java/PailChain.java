/** Pails on one chain round a wheel over a well, and the doors that drink of them. */
public final class PailChain {
    public static final int UNKNOWN = -1, OUTSIDE = -2, STATE = -3, FULL = -4, NO = -5, NONE = -6;
    public static final long GONE = -1000000000000000000L;

    private static final int MOST_PLACES = 9, FIRST_PLACES = 6, FIRST_DEEP = 6;
    private static final int MOST_SIGNS = 40, MOST_WORDS = 8, MOST_WORD_SIGNS = 8;
    private static final int MOST_SIGHTS = 6, MOST_FIT_PULLS = 10;
    private static final int MOST_FEWEST = 14, MOST_HUNG = 8, MOST_HUNG_PLACES = 6;
    private static final int MOST_RACE = 10, MOST_WIDOW = 12, MOST_CHANCE = 10;

    /** The signs of a ROW, in the order in which ROWS are told. */
    private static final int[] MOVES = {'+', '-', '.'};

    // A wheel is packed into one long, five bits (a lane) for each PLACE: a PULL is then a few
    // sums, and a search hands whole wheels on without making objects. The low four bits of a
    // lane are a number from 0 to 9; the fifth is free, so that sums in a lane never reach the
    // next one, and tells in a wheel that the DOOR there is not SERVED.
    private static final int LANE = 5;
    private static final long ONES = ((1L << LANE * MOST_PLACES) - 1) / 31;
    private static final long LOW = 15;
    private static final long LEVELS = ONES * LOW;
    private static final long THIRST = ONES * 16;

    private final Pad pad = new Pad();
    private final Chain chain = new Chain();
    private final Words words = new Words();
    private final Sights sights = new Sights();
    private final Image[] images = {new Image(), new Image()};
    private final Run run = new Run();
    private final Seek seek = new Seek();
    private final Hanging hanging = new Hanging();
    private final Race race = new Race();
    private final Widow widow = new Widow();
    private final Came came = new Came();

    // Searches are told piece by piece: what was found is kept until something changes.
    private int changes = 0;
    private int fewestAt = -1;
    private int hungAt = -1;
    private int cameAt = -1;
    private int fewestPulls = NONE;
    private int fewestRow = 0;

    public PailChain() {
    }

    // ---- 1 the wheel

    public int places(int n) {
        if (n < 3 || n > MOST_PLACES) {
            return OUTSIDE;
        }
        int was = chain.places;
        chain.hangAnew(n);
        sights.count = 0;
        changes++;
        return was;
    }

    public int pail(int pail, int what, int v) {
        if (!isThere(pail)) {
            return UNKNOWN;
        }
        if (what < 0 || what > 1 || v < 0 || v > (what == 0 ? chain.deep : 9)) {
            return OUTSIDE;
        }
        int place = chain.placeOf(pail, chain.turn);
        int was;
        if (what == 0) {
            was = lane(chain.wheel, place);
            chain.wheel = withLane(chain.wheel, place, v);
        } else {
            was = lane(chain.leaks, place);
            chain.leaks = withLane(chain.leaks, place, v);
        }
        changes++;
        return was;
    }

    public int door(int door, int v) {
        if (!isThere(door)) {
            return UNKNOWN;
        }
        if (v < 0 || v > 9) {
            return OUTSIDE;
        }
        int was = lane(chain.wants, door);
        chain.wants = withLane(chain.wants, door, v);
        chain.wheel = v == 0 ? chain.wheel & ~flag(door) : chain.wheel | flag(door);
        changes++;
        return was;
    }

    public int deep(int v) {
        if (v < 1 || v > 9) {
            return OUTSIDE;
        }
        if (chain.highest() > v) {
            return STATE;
        }
        int was = chain.deep;
        chain.deep = v;
        changes++;
        return was;
    }

    public int say(int sign) {
        if (sign < 33 || sign > 126) {
            return OUTSIDE;
        }
        return pad.put(sign) ? pad.count : FULL;
    }

    public int wipe() {
        int was = pad.count;
        pad.count = 0;
        return was;
    }

    public int fault() {
        return pad.firstFault();
    }

    public int pull() {
        if (pad.firstFault() != NONE) {
            return NO;
        }
        int before = chain.servedBits(chain.wheel);
        runPad();
        chain.wheel = run.wheel;
        chain.leaks = run.leaks;
        chain.turn = run.turn;
        pad.count = 0;
        changes++;
        return chain.servedBits(chain.wheel) & ~before;
    }

    // ---- 2 rows

    public int behind(int pail, int what) {
        if (!isThere(pail)) {
            return UNKNOWN;
        }
        if (what < 0 || what > 1) {
            return OUTSIDE;
        }
        if (pad.firstFault() != NONE) {
            return NO;
        }
        runPad();
        int place = chain.placeOf(pail, run.turn);
        return what == 0 ? place : lane(run.wheel, place);
    }

    public int after(int what) {
        boolean ofDoor = what >= 10 && what < 10 + chain.places;
        if (!ofDoor && (what < 0 || what > 3)) {
            return OUTSIDE;
        }
        if (pad.firstFault() != NONE) {
            return NO;
        }
        runPad();
        switch (what) {
            case 0: return chain.servedBits(run.wheel);
            case 1: return run.drawn;
            case 2: return run.leaked;
            case 3: return run.drunk;
            default: return run.pullsTill(what - 10);
        }
    }

    // ---- 3 fewest

    public int fewest(int i) {
        if (fewestAt != changes) {
            seek.look(chain, chain.wheel, chain.leaks, THIRST, MOST_FEWEST);
            fewestPulls = seek.best;
            fewestRow = seek.row;
            fewestAt = changes;
        }
        if (i == -1) {
            return fewestPulls;
        }
        if (i < 0 || i >= fewestPulls) {
            return NONE;
        }
        return MOVES[(fewestRow >>> (fewestPulls - 1 - i)) & 1];
    }

    public int soon(int door) {
        if (!isThere(door)) {
            return UNKNOWN;
        }
        seek.look(chain, chain.wheel, chain.leaks, flag(door), MOST_FEWEST);
        return seek.best;
    }

    public int hung(int i) {
        if (chain.places > MOST_HUNG_PLACES) {
            return FULL;
        }
        if (hungAt != changes) {
            hanging.look(chain, seek);
            hungAt = changes;
        }
        if (i == -1) {
            return hanging.best;
        }
        if (hanging.best == NONE || i < 0 || i >= chain.places || i >= MOST_HUNG_PLACES) {
            return NONE;
        }
        return hanging.bestOrder[i];
    }

    public int race(int door, int other, int m) {
        if (!isThere(door) || !isThere(other) || door == other) {
            return UNKNOWN;
        }
        if (m < 1 || m > MOST_RACE) {
            return OUTSIDE;
        }
        if ((chain.wheel & flag(door)) == 0 || (chain.wheel & flag(other)) == 0) {
            return STATE;
        }
        return race.winner(chain, flag(door), flag(other), m);
    }

    // ---- 4 chances, words

    public long widow(int m, int p, int q, int door, int part) {
        if (door != -1 && !isThere(door)) {
            return GONE + UNKNOWN;
        }
        if (m < 0 || m > MOST_WIDOW || q < 1 || q > MOST_CHANCE || p < 0 || p > q) {
            return GONE + OUTSIDE;
        }
        if (part < 0 || part > 1) {
            return GONE + OUTSIDE;
        }
        widow.look(chain, m, p, q, door == -1 ? THIRST : flag(door));
        return part == 0 ? widow.upper : widow.lower;
    }

    public int word() {
        if (!pad.isWord() || words.has(pad)) {
            return NO;
        }
        if (!words.put(pad)) {
            return FULL;
        }
        pad.count = 0;
        return words.count;
    }

    public int drop() {
        int was = words.count;
        words.count = 0;
        return was;
    }

    public int apart(int what) {
        switch (what) {
            case 0: return words.areApart() ? 1 : 0;
            case 1: return words.doubt() == NONE ? 1 : 0;
            case 2: return words.doubt();
            default: return OUTSIDE;
        }
    }

    // ---- 5 sights, days

    public int seen(int behind, int door, boolean served) {
        if (!isThere(door)) {
            return UNKNOWN;
        }
        if (behind < 0 || behind > MOST_FIT_PULLS) {
            return OUTSIDE;
        }
        if (!sights.put(behind, door, served)) {
            return FULL;
        }
        changes++;
        return sights.count;
    }

    public int forget() {
        int was = sights.count;
        sights.count = 0;
        changes++;
        return was;
    }

    public int came(int m, int i) {
        if (m < 0 || m > MOST_FIT_PULLS) {
            return OUTSIDE;
        }
        fit(m);
        if (i == -1) {
            return came.count;
        }
        return came.count == 0 || i < 0 || i >= m ? NONE : came.first[i];
    }

    public int could(int m, int i) {
        if (m < 0 || m > MOST_FIT_PULLS || i < 0 || i >= m) {
            return OUTSIDE;
        }
        fit(m);
        return came.count == 0 ? NONE : came.could[i];
    }

    public int day(int seed, int m, int what) {
        if (seed < 0 || seed > 9999 || m < 1 || m > 99 || what < 0 || what > 1) {
            return OUTSIDE;
        }
        int x = seed;
        run.begin(chain);
        for (int k = 0; k < m; k++) {
            x = (75 * x + 74) % 65537;
            if (x % 7 == 0) {
                run.wantAnew();
            }
            run.move(MOVES[x % 3]);
        }
        return what == 0 ? run.servings : run.drawn;
    }

    public int image(int n) {
        if (n < 0 || n >= images.length) {
            return OUTSIDE;
        }
        Image kept = images[n];
        kept.chain.copyFrom(chain);
        kept.words.copyFrom(words);
        kept.sights.copyFrom(sights);
        kept.isKept = true;
        return 1;
    }

    public int restore(int n) {
        if (n < 0 || n >= images.length) {
            return OUTSIDE;
        }
        Image kept = images[n];
        if (!kept.isKept) {
            return STATE;
        }
        chain.copyFrom(kept.chain);
        words.copyFrom(kept.words);
        sights.copyFrom(kept.sights);
        changes++;
        return 1;
    }

    public int told(int what) {
        switch (what) {
            case 0: return pad.count;
            case 1: return chain.places;
            case 2: return chain.deep;
            case 3: return chain.servedBits(chain.wheel);
            case 4: return words.count;
            case 5: return sights.count;
            default: return toldOfEach(what);
        }
    }

    private int toldOfEach(int what) {
        if (what < 10 || what > 49 || !isThere(what % 10)) {
            return OUTSIDE;
        }
        int k = what % 10;
        int place = chain.placeOf(k, chain.turn);
        switch (what / 10) {
            case 1: return place;
            case 2: return lane(chain.wheel, place);
            case 3: return lane(chain.leaks, place);
            default: return lane(chain.wants, k);
        }
    }

    /** There are as many PAILS as DOORS: the same numbers tell both. */
    private boolean isThere(int number) {
        return number >= 0 && number < chain.places;
    }

    private void runPad() {
        run.begin(chain);
        for (int k = 0; k < pad.count && k < MOST_SIGNS; k++) {
            run.move(pad.signs[k]);
        }
    }

    private void fit(int m) {
        if (cameAt != changes || came.m != m) {
            came.look(chain, sights, m);
            cameAt = changes;
        }
    }

    private static int lane(long lanes, int k) {
        return (int) ((lanes >>> (LANE * k)) & LOW);
    }

    private static long withLane(long lanes, int k, int v) {
        return (lanes & ~(LOW << (LANE * k))) | ((long) v << (LANE * k));
    }

    /** The bit of a wheel that tells that a DOOR is not SERVED. */
    private static long flag(int door) {
        return 16L << (LANE * door);
    }

    private static int sum(long lanes) {
        int sum = 0;
        for (int k = 0; k < MOST_PLACES; k++) {
            sum += lane(lanes, k);
        }
        return sum;
    }

    /** All ones in the numbers of those lanes whose fifth bit is set. */
    private static long numbersOf(long flags) {
        return flags - (flags >>> 4);
    }

    /** The wheel as it is, and what a PULL makes of any wheel with its DOORS. */
    private static final class Chain {
        int places = FIRST_PLACES;
        int deep = FIRST_DEEP;
        int turn = 0;
        long wheel = FIRST_DEEP;
        long leaks = 0;
        long wants = 0;

        void hangAnew(int n) {
            places = n;
            turn = 0;
            wheel = deep;
            leaks = 0;
            wants = 0;
        }

        void copyFrom(Chain other) {
            places = other.places;
            deep = other.deep;
            turn = other.turn;
            wheel = other.wheel;
            leaks = other.leaks;
            wants = other.wants;
        }

        int placeOf(int pail, int turned) {
            int place = pail + turned;
            return place >= places ? place - places : place;
        }

        int highest() {
            int highest = 0;
            for (int k = 0; k < places; k++) {
                highest = Math.max(highest, lane(wheel, k));
            }
            return highest;
        }

        int servedBits(long of) {
            int bits = 0;
            for (int k = 0; k < places; k++) {
                if ((of & flag(k)) == 0) {
                    bits |= 1 << k;
                }
            }
            return bits;
        }

        /** Lanes behind the turning of a PULL; DOORS stay where they are. */
        long turned(long lanes, int sign) {
            long numbers = lanes & LEVELS;
            int last = LANE * (places - 1);
            if (sign == '+') {
                numbers = ((numbers & ~(LOW << last)) << LANE) | (numbers >>> last);
            } else if (sign == '-') {
                numbers = (numbers >>> LANE) | ((numbers & LOW) << last);
            }
            return (lanes & THIRST) | numbers;
        }

        long leaked(long of, long leaking) {
            long less = (of | THIRST) - leaking;
            return (of & THIRST) | (less & numbersOf(less & THIRST));
        }

        long filled(long of) {
            return (of & ~LOW) | deep;
        }

        long drunk(long of) {
            long less = (of | THIRST) - wants;
            long drinkers = less & of & THIRST;
            return of - drinkers - (wants & numbersOf(drinkers));
        }

        /** A wheel that was turned, with its leaks turned likewise, behind the rest of the PULL. */
        long step(long of, long leaking) {
            return drunk(filled(leaked(of, leaking)));
        }
    }

    /** A ROW that is done sign by sign, with what flowed in it. */
    private static final class Run {
        final int[] when = new int[MOST_PLACES];
        Chain chain = null;
        long wheel = 0;
        long leaks = 0;
        int turn = 0;
        int pulls = 0;
        int drawn = 0;
        int leaked = 0;
        int drunk = 0;
        int servings = 0;

        void begin(Chain from) {
            chain = from;
            wheel = from.wheel;
            leaks = from.leaks;
            turn = from.turn;
            pulls = 0;
            drawn = 0;
            leaked = 0;
            drunk = 0;
            servings = 0;
            for (int k = 0; k < MOST_PLACES; k++) {
                when[k] = (wheel & flag(k)) == 0 ? 0 : NONE;
            }
        }

        void move(int sign) {
            if (chain == null) {
                return;
            }
            pulls++;
            turn = turnBehind(sign, chain.places);
            leaks = chain.turned(leaks, sign);
            long turned = chain.turned(wheel, sign);
            long dry = chain.leaked(turned, leaks);
            long full = chain.filled(dry);
            wheel = chain.drunk(full);
            leaked += sum(turned) - sum(dry);
            drawn += sum(full) - sum(dry);
            drunk += sum(full) - sum(wheel);
            note(full & ~wheel & THIRST);
        }

        /** SERVED DOORS with a WANT are not SERVED any more; one that wants nothing stays so. */
        void wantAnew() {
            if (chain != null) {
                wheel |= (chain.wants + LEVELS) & THIRST;
            }
        }

        int pullsTill(int door) {
            return door < 0 || door >= MOST_PLACES ? NONE : when[door];
        }

        private int turnBehind(int sign, int places) {
            if (sign == '+') {
                return turn + 1 >= places ? 0 : turn + 1;
            }
            if (sign == '-') {
                return turn == 0 ? places - 1 : turn - 1;
            }
            return turn;
        }

        private void note(long served) {
            for (int k = 0; k < MOST_PLACES; k++) {
                if ((served & flag(k)) != 0) {
                    when[k] = pulls;
                    servings++;
                }
            }
        }
    }

    /** The PAD. */
    private static final class Pad {
        final int[] signs = new int[MOST_SIGNS];
        int count = 0;

        boolean put(int sign) {
            if (count >= MOST_SIGNS) {
                return false;
            }
            signs[count] = sign;
            count++;
            return true;
        }

        int firstFault() {
            for (int k = 0; k < count && k < MOST_SIGNS; k++) {
                if (signs[k] != '+' && signs[k] != '-' && signs[k] != '.') {
                    return k;
                }
            }
            return NONE;
        }

        boolean isWord() {
            if (count < 1 || count > MOST_WORD_SIGNS) {
                return false;
            }
            for (int k = 0; k < count && k < MOST_SIGNS; k++) {
                if (signs[k] != '+' && signs[k] != '-') {
                    return false;
                }
            }
            return true;
        }
    }

    /** WORDS: the signs of word w stand from 8 w on. */
    private static final class Words {
        private static final int ALL_SIGNS = MOST_WORDS * MOST_WORD_SIGNS;
        private static final int FAR = 1000000;

        final int[] signs = new int[ALL_SIGNS];
        final int[] lengths = new int[MOST_WORDS];
        int count = 0;

        // What of a WORD (from a sign on) one row can be ahead of the other one by, and the
        // fewest signs of the longer row then.
        private final int[] fewestSigns = new int[ALL_SIGNS];
        private final boolean[] isSettled = new boolean[ALL_SIGNS];

        void copyFrom(Words other) {
            System.arraycopy(other.signs, 0, signs, 0, ALL_SIGNS);
            System.arraycopy(other.lengths, 0, lengths, 0, MOST_WORDS);
            count = other.count;
        }

        boolean has(Pad pad) {
            for (int w = 0; w < count && w < MOST_WORDS; w++) {
                if (lengths[w] == pad.count && isOnPad(w, pad)) {
                    return true;
                }
            }
            return false;
        }

        private boolean isOnPad(int w, Pad pad) {
            for (int k = 0; k < pad.count && k < MOST_WORD_SIGNS; k++) {
                if (signs[w * MOST_WORD_SIGNS + k] != pad.signs[k]) {
                    return false;
                }
            }
            return true;
        }

        boolean put(Pad pad) {
            if (count >= MOST_WORDS) {
                return false;
            }
            for (int k = 0; k < pad.count && k < MOST_WORD_SIGNS; k++) {
                signs[count * MOST_WORD_SIGNS + k] = pad.signs[k];
            }
            lengths[count] = pad.count;
            count++;
            return true;
        }

        boolean areApart() {
            for (int a = 0; a < count && a < MOST_WORDS; a++) {
                for (int b = 0; b < count && b < MOST_WORDS; b++) {
                    if (a != b && lengths[a] <= lengths[b] && agree(b, 0, a)) {
                        return false;
                    }
                }
            }
            return true;
        }

        /** The fewest signs that two unlike rows of WORDS can both be, or NONE. */
        int doubt() {
            startUnlike();
            for (int round = 0; round < ALL_SIGNS; round++) {
                int at = nearest();
                if (at == NONE) {
                    return NONE;
                }
                isSettled[at] = true;
                if (goOn(at)) {
                    return fewestSigns[at];
                }
            }
            return NONE;
        }

        /** The rows begin with two WORDS, one of which goes on behind the other one's end. */
        private void startUnlike() {
            for (int k = 0; k < ALL_SIGNS; k++) {
                fewestSigns[k] = FAR;
                isSettled[k] = false;
            }
            for (int a = 0; a < count && a < MOST_WORDS; a++) {
                for (int b = 0; b < count && b < MOST_WORDS; b++) {
                    if (lengths[a] < lengths[b] && agree(b, 0, a)) {
                        reach(b, lengths[a], lengths[b]);
                    }
                }
            }
        }

        private int nearest() {
            int at = NONE;
            int least = FAR;
            for (int k = 0; k < ALL_SIGNS; k++) {
                if (!isSettled[k] && fewestSigns[k] < least) {
                    least = fewestSigns[k];
                    at = k;
                }
            }
            return at;
        }

        /** Sets any WORD behind the row that is shorter; whether one makes both the same. */
        private boolean goOn(int at) {
            int w = at / MOST_WORD_SIGNS;
            int from = at % MOST_WORD_SIGNS;
            int ahead = lengths[w] - from;
            for (int next = 0; next < count && next < MOST_WORDS; next++) {
                if (agree(w, from, next)) {
                    int more = lengths[next] - ahead;
                    if (more == 0) {
                        return true;
                    }
                    if (more < 0) {
                        reach(w, from + lengths[next], fewestSigns[at]);
                    } else {
                        reach(next, ahead, fewestSigns[at] + more);
                    }
                }
            }
            return false;
        }

        private void reach(int w, int from, int length) {
            if (from < 0 || from >= MOST_WORD_SIGNS) {
                return;
            }
            int at = w * MOST_WORD_SIGNS + from;
            fewestSigns[at] = Math.min(fewestSigns[at], length);
        }

        /** Whether a WORD from a sign on and another WORD are the same as far as both go. */
        private boolean agree(int w, int from, int other) {
            for (int k = 0; from + k < lengths[w] && k < lengths[other]; k++) {
                if (signs[w * MOST_WORD_SIGNS + from + k] != signs[other * MOST_WORD_SIGNS + k]) {
                    return false;
                }
            }
            return true;
        }
    }

    /** SIGHTS. */
    private static final class Sights {
        final int[] behind = new int[MOST_SIGHTS];
        final int[] door = new int[MOST_SIGHTS];
        final boolean[] served = new boolean[MOST_SIGHTS];
        int count = 0;

        boolean put(int pulls, int ofDoor, boolean wasServed) {
            if (count >= MOST_SIGHTS) {
                return false;
            }
            behind[count] = pulls;
            door[count] = ofDoor;
            served[count] = wasServed;
            count++;
            return true;
        }

        void copyFrom(Sights other) {
            for (int k = 0; k < MOST_SIGHTS; k++) {
                behind[k] = other.behind[k];
                door[k] = other.door[k];
                served[k] = other.served[k];
            }
            count = other.count;
        }
    }

    /** An IMAGE. */
    private static final class Image {
        final Chain chain = new Chain();
        final Words words = new Words();
        final Sights sights = new Sights();
        boolean isKept = false;
    }

    /** The shortest ROW of + and - by which some DOORS are SERVED, the first of its length. */
    private static final class Seek {
        Chain chain = null;
        long doors = 0;
        int most = 0;
        int best = NONE;
        /** The ROW found: a bit for each sign, the last one lowest, 1 for -. */
        int row = 0;

        void look(Chain from, long wheel, long leaks, long ofDoors, int mostPulls) {
            chain = from;
            doors = ofDoors;
            most = mostPulls;
            best = NONE;
            row = 0;
            if (canAll(wheel, leaks)) {
                seekOn(this, wheel, leaks, 0, 0);
            }
        }

        /** Once a ROW is found, only shorter ones are looked for: the first one found stays. */
        private static void seekOn(Seek s, long wheel, long leaks, int signs, int pulls) {
            if (pulls > s.most || pulls > MOST_FEWEST || s.chain == null) {
                return;
            }
            if ((wheel & s.doors) == 0) {
                s.best = pulls;
                s.row = signs;
                s.most = pulls - 1;
                return;
            }
            if (pulls == s.most) {
                return;
            }
            for (int k = 0; k < 2; k++) {
                long turnedLeaks = s.chain.turned(leaks, MOVES[k]);
                long next = s.chain.step(s.chain.turned(wheel, MOVES[k]), turnedLeaks);
                seekOn(s, next, turnedLeaks, 2 * signs + k, pulls + 1);
            }
        }

        /** Spares the whole search where a DOOR can not be SERVED by any ROW. */
        private boolean canAll(long wheel, long leaks) {
            for (int k = 0; k < chain.places; k++) {
                if ((wheel & doors & flag(k)) != 0 && !canOne(k, wheel, leaks)) {
                    return false;
                }
            }
            return true;
        }

        /** Whether a PAIL may bring enough on its shortest way, as it is or from THE WELL. */
        private boolean canOne(int door, long wheel, long leaks) {
            int want = lane(chain.wants, door);
            int fromWell = way(0, door);
            for (int p = 0; p < chain.places; p++) {
                int leak = lane(leaks, p);
                int asItIs = lane(wheel, p) - leak * Math.max(1, way(p, door));
                if (Math.max(asItIs, chain.deep - leak * fromWell) >= want) {
                    return true;
                }
            }
            return false;
        }

        private int way(int a, int b) {
            int way = Math.abs(a - b);
            return Math.min(way, chain.places - way);
        }
    }

    /** The order of PAILS by which all DOORS are SERVED by the fewest PULLS. */
    private static final class Hanging {
        final int[] order = new int[MOST_HUNG_PLACES];
        final int[] bestOrder = new int[MOST_HUNG_PLACES];
        Chain chain = null;
        Seek seek = null;
        long wheel = 0;
        int most = 0;
        int best = NONE;

        void look(Chain from, Seek by) {
            chain = from;
            seek = by;
            wheel = (from.wheel & THIRST) | from.deep;
            most = MOST_HUNG;
            best = NONE;
            hangOn(this, 0, 0, 0);
        }

        /** Orders come by numbers: a later one must be better by at least one PULL. */
        private static void hangOn(Hanging h, int place, int hanging, long leaks) {
            if (h.chain == null || h.seek == null || h.most < 0) {
                return;
            }
            if (place >= h.chain.places || place >= MOST_HUNG_PLACES) {
                h.seek.look(h.chain, h.wheel, leaks, THIRST, h.most);
                h.keepBetter();
                return;
            }
            for (int pail = 0; pail < h.chain.places; pail++) {
                if ((hanging >> pail & 1) == 0 && h.isFirstOfItsLeak(pail, hanging)) {
                    h.order[place] = pail;
                    long more = (long) h.leakOf(pail) << (LANE * place);
                    hangOn(h, place + 1, hanging | 1 << pail, leaks | more);
                }
            }
        }

        private void keepBetter() {
            if (seek.best == NONE) {
                return;
            }
            best = seek.best;
            most = best - 1;
            System.arraycopy(order, 0, bestOrder, 0, MOST_HUNG_PLACES);
        }

        /** PAILS that LEAK alike and hold nothing are alike: only the order first by numbers counts. */
        private boolean isFirstOfItsLeak(int pail, int hanging) {
            for (int k = 0; k < pail; k++) {
                if ((hanging >> k & 1) == 0 && leakOf(k) == leakOf(pail)) {
                    return false;
                }
            }
            return true;
        }

        private int leakOf(int pail) {
            return lane(chain.leaks, chain.placeOf(pail, chain.turn));
        }
    }

    /** RACE. */
    private static final class Race {
        Chain chain = null;
        long firstDoor = 0;
        long secondDoor = 0;
        int all = 0;

        int winner(Chain from, long first, long second, int pulls) {
            chain = from;
            firstDoor = first;
            secondDoor = second;
            all = pulls;
            int sure = sureOf(this, from.wheel, from.leaks, pulls, -1, 1);
            return sure > 0 ? 0 : sure < 0 ? 1 : 2;
        }

        /**
         * What he who pulls next can be sure of: 1 he is ahead, -1 the other one is, 0 neither.
         * Only what lies between low and high matters to him who asks.
         */
        private static int sureOf(Race r, long wheel, long leaks, int left, int low, int high) {
            if (left <= 0 || left > MOST_RACE || r.chain == null) {
                return 0;
            }
            boolean isFirst = ((r.all - left) & 1) == 0;
            long mine = isFirst ? r.firstDoor : r.secondDoor;
            long his = isFirst ? r.secondDoor : r.firstDoor;
            int best = low;
            for (int k = 0; k < 3 && best < high; k++) {
                long turnedLeaks = r.chain.turned(leaks, MOVES[k]);
                long next = r.chain.step(r.chain.turned(wheel, MOVES[k]), turnedLeaks);
                int value;
                if ((next & mine) != 0 && (next & his) != 0) {
                    value = -sureOf(r, next, turnedLeaks, left - 1, -high, -best);
                } else {
                    value = ((next & mine) == 0 ? 1 : 0) - ((next & his) == 0 ? 1 : 0);
                }
                best = Math.max(best, value);
            }
            return best;
        }
    }

    /** THE WIDOW. */
    private static final class Widow {
        final long[] powers = new long[MOST_WIDOW + 1];
        Chain chain = null;
        long doors = 0;
        int plus = 0;
        int minus = 0;
        long upper = 0;
        long lower = 1;

        void look(Chain from, int m, int p, int q, long ofDoors) {
            chain = from;
            doors = ofDoors;
            plus = p;
            minus = q - p;
            powers[0] = 1;
            for (int k = 1; k <= MOST_WIDOW; k++) {
                powers[k] = powers[k - 1] * q;
            }
            upper = ways(this, from.wheel, from.leaks, m);
            lower = m < 0 || m > MOST_WIDOW ? 1 : powers[m];
            long common = commonDivisor(upper, lower);
            if (common > 1) {
                upper = upper / common;
                lower = lower / common;
            }
        }

        /** Of the q to the m-th ways in which chance can go on, those by which they are SERVED. */
        private static long ways(Widow w, long wheel, long leaks, int left) {
            if (left < 0 || left > MOST_WIDOW || w.chain == null) {
                return 0;
            }
            if ((wheel & w.doors) == 0) {
                return w.powers[left];
            }
            if (left == 0) {
                return 0;
            }
            long all = 0;
            for (int k = 0; k < 2; k++) {
                int weight = k == 0 ? w.plus : w.minus;
                if (weight > 0) {
                    long turnedLeaks = w.chain.turned(leaks, MOVES[k]);
                    long next = w.chain.step(w.chain.turned(wheel, MOVES[k]), turnedLeaks);
                    all += weight * ways(w, next, turnedLeaks, left - 1);
                }
            }
            return all;
        }

        private static long commonDivisor(long a, long b) {
            long big = a;
            long small = b;
            for (int k = 0; k < 200 && small != 0; k++) {
                long rest = big % small;
                big = small;
                small = rest;
            }
            return big;
        }
    }

    /** CAME: all ROWS of m signs that fit the SIGHTS. */
    private static final class Came {
        // By PULLS: DOORS that must be SERVED behind so many, and behind any more of them; DOORS
        // that must not be so behind so many or more, as who is SERVED stays so.
        final long[] needed = new long[MOST_FIT_PULLS + 2];
        final long[] neededLater = new long[MOST_FIT_PULLS + 2];
        final long[] barred = new long[MOST_FIT_PULLS + 2];
        final int[] row = new int[MOST_FIT_PULLS];
        final int[] first = new int[MOST_FIT_PULLS];
        final int[] could = new int[MOST_FIT_PULLS];
        Chain chain = null;
        int m = 0;
        int count = 0;
        boolean isFound = false;

        void look(Chain from, Sights sights, int pulls) {
            chain = from;
            m = pulls;
            isFound = false;
            for (int k = 0; k < MOST_FIT_PULLS; k++) {
                could[k] = 0;
            }
            read(sights);
            count = fitting(this, from.wheel, from.leaks, 0);
        }

        private void read(Sights sights) {
            for (int k = 0; k < MOST_FIT_PULLS + 2; k++) {
                needed[k] = 0;
                neededLater[k] = 0;
                barred[k] = 0;
            }
            for (int k = 0; k < sights.count && k < MOST_SIGHTS; k++) {
                int behind = sights.behind[k];
                if (behind >= 0 && behind <= m && behind <= MOST_FIT_PULLS) {
                    if (sights.served[k]) {
                        needed[behind] |= flag(sights.door[k]);
                    } else {
                        barred[behind] |= flag(sights.door[k]);
                    }
                }
            }
            for (int k = MOST_FIT_PULLS; k >= 0; k--) {
                neededLater[k] = neededLater[k + 1] | needed[k + 1];
                barred[k] |= barred[k + 1];
            }
        }

        /** How many ROWS that begin with the signs that are in row so far fit. */
        private static int fitting(Came c, long wheel, long leaks, int pulls) {
            if (c.chain == null || pulls < 0 || pulls > c.m || pulls > MOST_FIT_PULLS) {
                return 0;
            }
            if ((wheel & c.needed[pulls]) != 0 || (~wheel & c.barred[pulls]) != 0) {
                return 0;
            }
            if ((wheel & c.neededLater[pulls]) == 0 && c.barred[pulls + 1] == 0) {
                return c.allFrom(pulls);
            }
            if (pulls >= MOST_FIT_PULLS) {
                return 0;
            }
            int fit = 0;
            for (int k = 0; k < 3; k++) {
                c.row[pulls] = MOVES[k];
                long turnedLeaks = c.chain.turned(leaks, MOVES[k]);
                long next = c.chain.step(c.chain.turned(wheel, MOVES[k]), turnedLeaks);
                int more = fitting(c, next, turnedLeaks, pulls + 1);
                if (more > 0) {
                    c.could[pulls] |= 1 << k;
                }
                fit += more;
            }
            return fit;
        }

        /** No SIGHT speaks against anything any more: all ROWS that go on from here fit. */
        private int allFrom(int pulls) {
            int all = 1;
            for (int k = pulls; k < m && k < MOST_FIT_PULLS; k++) {
                could[k] |= 7;
                row[k] = '+';
                all *= 3;
            }
            if (!isFound) {
                isFound = true;
                System.arraycopy(row, 0, first, 0, MOST_FIT_PULLS);
            }
            return all;
        }
    }
}
