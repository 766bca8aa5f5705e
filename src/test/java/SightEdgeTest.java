/** Section 5 of the document, and promises 20 to 27: SIGHTS, days, images, what is told. */
public final class SightEdgeTest {
    private static final Check CHECK = new Check("SightEdgeTest");
    private static final int UNKNOWN = Check.UNKNOWN, OUTSIDE = Check.OUTSIDE, STATE = Check.STATE;
    private static final int FULL = Check.FULL, NONE = Check.NONE;
    private static final int FAR = Check.FAR, DOWN = Check.DOWN;

    private SightEdgeTest() {
    }

    public static void main(String[] args) {
        sixSights();
        seenBehind();
        seenUnknown();
        forgotten();
        behindMoreThanM();
        servedBehindM();
        rowsOfM();
        cameByIndex();
        firstThatFits();
        cameBehindChanges();
        couldBe();
        couldRefused();
        couldNone();
        daySeeds();
        dayPulls();
        dayAnew();
        dayOfNothing();
        dayRefused();
        twoImages();
        imageOfAll();
        imageWithoutPad();
        restored();
        toldWhat();
        toldByPlaces();
        CHECK.end();
    }

    private static void due(String call, long got, long want) {
        CHECK.due(call, got, want);
    }

    private static void sixSights() {
        CHECK.of("5", "SIGHTS, 6 at most");
        CHECK.of("Promise 20", "A SIGHT more: how many. .. FULL.");
        PailChain x = Check.wheel(4, 0, 9);
        for (int k = 1; k <= 6; k++) {
            due("SIGHT " + k, x.seen(10, 0, true), k);
        }
        due("a seventh", x.seen(0, 1, true), FULL);
        due("the same once more", x.seen(10, 0, true), FULL);
        due("SIGHTS", x.told(5), 6);
        due("the seventh does not count", x.came(1, -1), 3);
        due("forget()", x.forget(), 6);
        due("then it is the first", x.seen(0, 1, true), 1);
        due("and counts", x.came(1, -1), 0);
    }

    private static void seenBehind() {
        CHECK.of("5", "behind so many PULLS (0 to 10)");
        CHECK.of("Promise 20", "OUTSIDE");
        PailChain x = Check.wheel(4);
        for (int behind = 0; behind <= 10; behind++) {
            due("seen(" + behind + ", 3, true)", x.seen(behind, 3, true), 1);
            due("forget()", x.forget(), 1);
        }
        for (int behind : new int[] {DOWN, -10, -1, 11, 12, FAR}) {
            due("seen(" + behind + ", 3, true)", x.seen(behind, 3, true), OUTSIDE);
            due("seen(" + behind + ", 3, false)", x.seen(behind, 3, false), OUTSIDE);
            due("SIGHTS", x.told(5), 0);
        }
    }

    private static void seenUnknown() {
        CHECK.of("Promise 20", "UNKNOWN");
        for (int n = 3; n <= 9; n++) {
            PailChain x = Check.wheel(n);
            due("DOOR 0", x.seen(1, 0, false), 1);
            due("the last DOOR", x.seen(1, n - 1, false), 2);
            for (int door : new int[] {DOWN, -1, n, n + 1, FAR}) {
                due("seen(1, " + door + ", true) of " + n, x.seen(1, door, true), UNKNOWN);
            }
            due("SIGHTS", x.told(5), 2);
        }
    }

    private static void forgotten() {
        CHECK.of("Promise 21", "SIGHTS go: how many there were.");
        PailChain x = Check.wheel(4);
        due("of none", x.forget(), 0);
        x.seen(0, 0, false);
        due("it does not fit", x.came(2, -1), 0);
        due("of one", x.forget(), 1);
        due("it does not count any more", x.came(2, -1), 9);
        due("of none again", x.forget(), 0);
    }

    private static long threes(int m) {
        long all = 1;
        for (int k = 0; k < m; k++) {
            all *= 3;
        }
        return all;
    }

    private static void behindMoreThanM() {
        CHECK.of("5", "that fit all SIGHTS (those behind more than m do not count)");
        // DOOR 0 is SERVED now and stays so; DOOR 1 WANTS more than there ever is.
        for (int behind = 0; behind <= 10; behind++) {
            PailChain x = Check.wheel(4, 0, 9);
            x.seen(behind, 0, false);
            PailChain y = Check.wheel(4, 0, 9);
            y.seen(behind, 1, true);
            for (int m = 0; m <= 10; m++) {
                long want = behind <= m ? 0 : threes(m);
                due("SIGHT behind " + behind + ", not SERVED: came(" + m + ", -1)", x.came(m, -1), want);
                due("SIGHT behind " + behind + ", SERVED: came(" + m + ", -1)", y.came(m, -1), want);
                if (m > 0) {
                    due("could(" + m + ", " + (m - 1) + ")", x.could(m, m - 1), want == 0 ? NONE : 7);
                    due("the last sign", y.came(m, m - 1), want == 0 ? NONE : '+');
                }
            }
        }
    }

    private static void servedBehindM() {
        CHECK.of("5", "behind so many PULLS (0 to 10) a DOOR was SERVED, or not");
        // DOOR 0 is SERVED by any first PULL.
        PailChain x = Check.wheel(3, 5);
        x.seen(0, 0, false);
        x.seen(1, 0, true);
        due("not now, but behind one", x.came(3, -1), 27);
        x.seen(10, 0, true);
        due("and behind ten", x.came(10, -1), 59049);
        x.seen(0, 0, true);
        due("both now is too much", x.came(0, -1), 0);
        x.forget();
        x.seen(1, 0, false);
        due("not behind one", x.came(1, -1), 0);
        due("m 0", x.came(0, -1), 1);
        // DOOR 1 by the tenth PULL at the latest, or not at all: the two are all ROWS together.
        PailChain a = Check.wheel(9, 0, 0, 0, 0, 6);
        a.pail(0, 0, 0);
        PailChain b = Check.wheel(9, 0, 0, 0, 0, 6);
        b.pail(0, 0, 0);
        a.seen(10, 4, true);
        b.seen(10, 4, false);
        due("SERVED or not", a.came(10, -1) + b.came(10, -1), 59049);
        Model model = Check.modelOf(a);
        model.seen(10, 4, true);
        due("SERVED behind ten, as the model tries all", a.came(10, -1), model.came(10, -1));
    }

    private static void rowsOfM() {
        CHECK.of("5", "ROWS of m signs (0 to 10; +, -, .)");
        CHECK.of("Promise 22", "OUTSIDE: m.");
        due("came(0, -1) of a new object", new PailChain().came(0, -1), 1);
        PailChain x = Check.wheel(4, 1, 2, 3, 4);
        for (int m = 0; m <= 10; m++) {
            due("came(" + m + ", -1)", x.came(m, -1), threes(m));
        }
        for (int m : new int[] {DOWN, -10, -1, 11, 12, FAR}) {
            for (int i : new int[] {DOWN, -2, -1, 0, 10, 11, FAR}) {
                due("came(" + m + ", " + i + ")", x.came(m, i), OUTSIDE);
            }
        }
    }

    private static void cameByIndex() {
        CHECK.of("Promise 22", "CAME: how many (i = -1), the i-th sign of the first (its code); NONE.");
        PailChain x = Check.wheel(4, 0, 9);
        for (int m = 0; m <= 10; m++) {
            for (int i = 0; i < m; i++) {
                due("came(" + m + ", " + i + ")", x.came(m, i), '+');
            }
            for (int i : new int[] {DOWN, -2, m, m + 1, 11, FAR}) {
                due("came(" + m + ", " + i + ")", x.came(m, i), NONE);
            }
        }
        x.seen(0, 1, true);
        for (int m = 0; m <= 10; m++) {
            due("no ROW fits: came(" + m + ", -1)", x.came(m, -1), 0);
            due("no ROW fits: came(" + m + ", 0)", x.came(m, 0), NONE);
            due("no ROW fits: came(" + m + ", -2)", x.came(m, -2), NONE);
        }
    }

    private static void firstThatFits() {
        CHECK.of("5", "the first (+ - . in this order)");
        PailChain x = Check.oneTight(0, 4, 0, 6, 0, 6);
        x.seen(1, 1, false);
        due("no +, so -", x.came(2, 0), '-');
        due("then +", x.came(2, 1), '+');
        due("six", x.came(2, -1), 6);
        x.seen(1, 3, false);
        due("no -, so .", x.came(2, 0), '.');
        due("three", x.came(2, -1), 3);
        x.seen(2, 1, false);
        due("- behind .", x.came(2, 1), '-');
        x.seen(2, 3, false);
        due(". behind .", x.came(2, 1), '.');
        due("one", x.came(2, -1), 1);
    }

    private static void cameBehindChanges() {
        CHECK.of("5", "CAME: ROWS .. that fit all SIGHTS");
        PailChain x = Check.oneTight(0, 4, 0, 6, 0, 6);
        x.seen(1, 1, true);
        x.image(0);
        due("+", x.came(1, -1), 1);
        x.door(1, 0);
        due("behind door", x.came(1, -1), 3);
        x.restore(0);
        due("behind restore", x.came(1, -1), 1);
        x.pail(0, 1, 1);
        due("behind pail", x.came(1, -1), 0);
        x.deep(7);
        x.pail(0, 0, 7);
        due("behind deep and pail", x.came(1, -1), 1);
        Check.pull(x, "-");
        due("behind a PULL", x.came(1, -1), 0);
        x.seen(2, 0, true);
        x.forget();
        due("behind forget", x.came(1, -1), 3);
        x.seen(0, 0, false);
        due("behind seen", x.came(1, -1), 0);
        due("another m", x.came(2, -1), 0);
        x.places(4);
        due("behind places", x.came(1, -1), 3);
        due("m again", x.came(2, -1), 9);
        PailChain deep = Check.wheel(3, 7);
        deep.seen(1, 0, true);
        due("WANTS one more than DEEP", deep.came(1, -1), 0);
        deep.deep(7);
        due("behind deep alone", deep.came(1, -1), 3);
    }

    private static void couldBe() {
        CHECK.of("5", "the signs that can have been the i-th (1 for +, 2 for -, 4 for ., together)");
        PailChain x = Check.oneTight(0, 4, 0, 6, 0, 6);
        due("all", x.could(1, 0), 7);
        x.seen(1, 1, true);
        due("+", x.could(1, 0), 1);
        x.forget();
        x.seen(1, 3, true);
        due("-", x.could(1, 0), 2);
        x.forget();
        x.seen(1, 1, false);
        due("- or .", x.could(1, 0), 6);
        x.seen(1, 3, false);
        due(".", x.could(1, 0), 4);
        x.forget();
        x.seen(1, 3, false);
        due("+ or .", x.could(1, 0), 5);
        due("the tenth of ten is free", x.could(10, 9), 7);
        PailChain y = Check.wheel(4, 0, 6, 6);
        y.seen(10, 1, false);
        y.seen(10, 2, true);
        due("ten: first", y.could(10, 0), 6);
        PailChain z = Check.wheel(4, 0, 0, 6);
        z.seen(2, 2, true);
        due("++ or --", z.came(2, -1), 2);
        due("++ or --: first", z.could(2, 0), 3);
        due("++ or --: second", z.could(2, 1), 3);
    }

    private static void couldRefused() {
        CHECK.of("Promise 23", "OUTSIDE: m, i 0 to m less 1.");
        PailChain x = Check.wheel(4);
        for (int m = 0; m <= 10; m++) {
            if (m > 0) {
                due("could(" + m + ", 0)", x.could(m, 0), 7);
                due("could(" + m + ", " + (m - 1) + ")", x.could(m, m - 1), 7);
            }
            for (int i : new int[] {DOWN, -2, -1, m, m + 1, FAR}) {
                due("could(" + m + ", " + i + ")", x.could(m, i), OUTSIDE);
            }
        }
        for (int m : new int[] {DOWN, -2, -1, 11, 12, FAR}) {
            for (int i : new int[] {DOWN, -3, -1, 0, 5, 10, FAR}) {
                due("could(" + m + ", " + i + ")", x.could(m, i), OUTSIDE);
            }
        }
    }

    private static void couldNone() {
        CHECK.of("Promise 23", "NONE: no ROW fits.");
        PailChain x = Check.wheel(4);
        x.seen(3, 0, false);
        due("of 2", x.could(2, 1), 7);
        for (int m = 3; m <= 10; m++) {
            for (int i = 0; i < m; i++) {
                due("could(" + m + ", " + i + ")", x.could(m, i), NONE);
            }
        }
    }

    private static int next(int x) {
        return (75 * x + 74) % 65537;
    }

    private static void daySeeds() {
        CHECK.of("5", "A DAY by a seed (0 to 9999)");
        // + alone serves DOOR 1.
        PailChain x = null;
        for (int seed = 0; seed <= 9999; seed++) {
            if (seed % 200 == 0) {
                x = Check.oneTight(0, 5, 0, 6, 0, 0, 0);
            }
            int y = next(seed);
            due("day(" + seed + ", 1, 0)", x.day(seed, 1, 0), y % 3 == 0 ? 1 : 0);
            // At THE WELL stands PAIL 0, which is full, or another one, which is empty.
            due("day(" + seed + ", 1, 1)", x.day(seed, 1, 1), y % 3 == 2 ? 0 : 6);
        }
    }

    private static void dayPulls() {
        CHECK.of("5", "m PULLS (1 to 99)");
        // All PAILS leak all they hold: each PULL draws 6.
        for (int seed : new int[] {0, 1, 873, 5000, 9999}) {
            PailChain x = Check.oneTight(9, 5);
            for (int m = 1; m <= 99; m++) {
                due("day(" + seed + ", " + m + ", 1)", x.day(seed, m, 1), 6 * m);
            }
        }
    }

    private static void dayAnew() {
        CHECK.of("5", "each WANT that is SERVED comes anew (..) when x left over by 7 is 0, ahead of the PULL");
        // DOOR 0 is SERVED by the next PULL whenever it is not.
        for (int seed : new int[] {0, 2, 3, 9, 16, 4711, 9998, 9999}) {
            PailChain x = Check.wheel(5, 6);
            PailChain y = Check.wheel(5, 6);
            Check.pull(y, ".");
            int at = seed;
            int anew = 0;
            for (int m = 1; m <= 99; m++) {
                at = next(at);
                anew += at % 7 == 0 ? 1 : 0;
                int first = next(seed) % 7 == 0 ? 0 : 1;
                due("day(" + seed + ", " + m + ", 0), not SERVED at first", x.day(seed, m, 0), anew + first);
                due("day(" + seed + ", " + m + ", 0), SERVED at first", y.day(seed, m, 0), anew);
            }
        }
        CHECK.of("5", "the DOOR is not SERVED any more, with the same WANT");
        PailChain z = Check.wheel(5, 6);
        z.day(9999, 99, 0);
        due("the wheel stays", z.told(3), 30);
        due("the WANT stays", z.told(40), 6);
        due("PAIL 0 stays", z.told(10), 0);
    }

    private static void dayOfNothing() {
        CHECK.of("5", "How many times DOORS were SERVED by a PULL.");
        PailChain x = Check.wheel(5);
        for (int seed = 0; seed < 100; seed++) {
            due("no WANT: day(" + seed + ", 99, 0)", x.day(seed, 99, 0), 0);
        }
        PailChain two = Check.wheel(3, 1, 1, 1);
        for (int k = 0; k < 3; k++) {
            two.pail(k, 0, 6);
        }
        due("three DOORS by one PULL", two.day(0, 1, 0), 3);
    }

    private static void dayRefused() {
        CHECK.of("Promise 24", "how many times DOORS were SERVED (what = 0), drawn (1). OUTSIDE.");
        PailChain x = Check.wheel(5, 6);
        due("seed 0", x.day(0, 1, 0), 1);
        due("seed 9999", x.day(9999, 1, 0), 1);
        due("m 99", x.day(0, 99, 0) > 0 ? 1 : 0, 1);
        for (int seed : new int[] {DOWN, -1, 10000, 10001, 65537, FAR}) {
            due("day(" + seed + ", 1, 0)", x.day(seed, 1, 0), OUTSIDE);
        }
        for (int m : new int[] {DOWN, -1, 0, 100, 101, FAR}) {
            due("day(0, " + m + ", 0)", x.day(0, m, 0), OUTSIDE);
        }
        for (int what : new int[] {DOWN, -1, 2, 3, FAR}) {
            due("day(0, 1, " + what + ")", x.day(0, 1, what), OUTSIDE);
        }
    }

    private static void twoImages() {
        CHECK.of("Promise 25", "All but the PAD is kept in an IMAGE (0, 1): 1. OUTSIDE.");
        PailChain x = Check.wheel(4);
        for (int n : new int[] {DOWN, -2, -1, 2, 3, FAR}) {
            due("image(" + n + ")", x.image(n), OUTSIDE);
        }
        due("none is kept by that", x.restore(0), STATE);
        due("nor the other one", x.restore(1), STATE);
        x.door(1, 1);
        due("image(1)", x.image(1), 1);
        due("0 is not kept by 1", x.restore(0), STATE);
        x.door(1, 2);
        due("image(0)", x.image(0), 1);
        x.door(1, 3);
        due("restore(1)", x.restore(1), 1);
        due("of 1", x.told(41), 1);
        due("restore(0)", x.restore(0), 1);
        due("of 0", x.told(41), 2);
        x.door(1, 4);
        due("image(1) anew", x.image(1), 1);
        due("restore(0), which stays", x.restore(0), 1);
        due("of 0 still", x.told(41), 2);
        x.restore(1);
        due("of 1 anew", x.told(41), 4);
    }

    /** Another wheel for each number: PLACES, DEEP, WANTS, SIGHTS, WORDS, turned another way. */
    private static void fill(PailChain x, int kind) {
        x.places(9);
        x.pail(0, 0, 0);
        x.deep(5 + kind);
        x.places(4 + kind);
        for (int k = 0; k < 4 + kind; k++) {
            x.pail(k, 0, (3 * k + kind) % 6);
            x.pail(k, 1, (k + kind) % 3);
            x.door(k, (2 * k + kind) % 7);
        }
        Check.pull(x, kind == 0 ? "+" : kind == 1 ? "-" : "--");
        x.drop();
        Check.word(x, kind == 0 ? "+" : "-+");
        Check.word(x, kind == 1 ? "+-" : "--+");
        for (int k = 0; k < 6 - 2 * kind; k++) {
            x.seen((5 * k + kind) % 11, (k + kind) % 4, (k + kind) % 2 == 0);
        }
        x.wipe();
        Check.say(x, "+-");
    }

    private static PailChain filled(int kind) {
        PailChain x = new PailChain();
        fill(x, kind);
        return x;
    }

    private static void imageOfAll() {
        CHECK.of("Promise 26", "It is as it was when it was kept: 1.");
        for (int kept = 0; kept < 3; kept++) {
            for (int now = 0; now < 3; now++) {
                for (int n = 0; n < 2; n++) {
                    PailChain x = filled(kept);
                    x.image(n);
                    fill(x, now);
                    due("restore(" + n + ")", x.restore(n), 1);
                    PailChain y = filled(kept);
                    y.image(n);
                    CHECK.same("restore(" + n + ") of " + kept + " over " + now, Whole.of(x), Whole.of(y));
                }
            }
        }
    }

    private static void imageWithoutPad() {
        CHECK.of("Promise 25", "All but the PAD is kept");
        PailChain x = Check.wheel(4);
        Check.say(x, "+a");
        x.image(0);
        due("the PAD stays", x.told(0), 2);
        due("its FAULT too", x.fault(), 1);
        due("restore(0)", x.restore(0), 1);
        due("the PAD stays", x.fault(), 1);
        x.wipe();
        x.restore(0);
        due("nothing comes back", x.told(0), 0);
        Check.say(x, "...b");
        x.restore(0);
        due("nothing goes", x.fault(), 3);
    }

    private static void restored() {
        CHECK.of("Promise 26", "OUTSIDE; STATE: it was not.");
        PailChain x = Check.wheel(4);
        for (int n : new int[] {DOWN, -2, -1, 2, 3, FAR}) {
            due("restore(" + n + ")", x.restore(n), OUTSIDE);
        }
        due("restore(0)", x.restore(0), STATE);
        due("restore(1)", x.restore(1), STATE);
        x.image(0);
        due("restore(1), 0 was kept", x.restore(1), STATE);
        for (int times = 0; times < 3; times++) {
            x.door(1, 5);
            x.seen(1, 1, true);
            Check.word(x, "+");
            due("restore(0)", x.restore(0), 1);
            due("WANT", x.told(41), 0);
            due("SIGHTS", x.told(5), 0);
            due("WORDS", x.told(4), 0);
        }
        x.places(9);
        due("restore(0) with other PLACES", x.restore(0), 1);
        due("PLACES", x.told(1), 4);
        due("no PAIL 4", x.told(14), OUTSIDE);
    }

    private static void toldWhat() {
        CHECK.of("Promise 27", "0 signs, 1 PLACES, 2 DEEP, 3 SERVED DOORS (bits), 4 WORDS, 5 SIGHTS");
        PailChain x = Check.wheel(3, 0, 4, 5);
        x.pail(0, 0, 0);
        x.deep(8);
        x.seen(1, 1, true);
        Check.word(x, "+");
        Check.word(x, "-");
        Check.say(x, "+-.z");
        int[] due = {4, 3, 8, 1, 2, 1};
        for (int what = 0; what < due.length; what++) {
            due("told(" + what + ")", x.told(what), due[what]);
        }
        for (int what : new int[] {DOWN, -10, -1, 6, 7, 8, 9, 50, 51, 60, 100, 1010, FAR}) {
            due("told(" + what + ")", x.told(what), OUTSIDE);
        }
    }

    private static void toldByPlaces() {
        CHECK.of("Promise 27", "10 on PLACES of PAILS, 20 on what they HOLD, 30 on LEAK, 40 on what DOORS WANT. OUTSIDE (also of PAILS that there are not).");
        for (int n = 3; n <= 9; n++) {
            PailChain x = Check.wheel(n);
            for (int k = 0; k < n; k++) {
                x.pail(k, 0, (k + 1) % 7);
                x.pail(k, 1, 9 - k);
                x.door(k, k + 1);
            }
            for (int k = 0; k < 10; k++) {
                boolean is = k < n;
                due("told(" + (10 + k) + ") of " + n, x.told(10 + k), is ? k : OUTSIDE);
                due("told(" + (20 + k) + ") of " + n, x.told(20 + k), is ? (k + 1) % 7 : OUTSIDE);
                due("told(" + (30 + k) + ") of " + n, x.told(30 + k), is ? 9 - k : OUTSIDE);
                due("told(" + (40 + k) + ") of " + n, x.told(40 + k), is ? k + 1 : OUTSIDE);
            }
        }
    }
}
