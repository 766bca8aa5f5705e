/** Section 3 of the document, and promises 12 to 15: 14 PULLS, 8 PULLS, 6 PLACES, 1 to 10 PULLS. */
public final class FewestEdgeTest {
    private static final Check CHECK = new Check("FewestEdgeTest");
    private static final int UNKNOWN = Check.UNKNOWN, OUTSIDE = Check.OUTSIDE, STATE = Check.STATE;
    private static final int FULL = Check.FULL, NONE = Check.NONE;
    private static final int FAR = Check.FAR, DOWN = Check.DOWN;

    private FewestEdgeTest() {
    }

    public static void main(String[] args) {
        fewestOfAllServed();
        fourteenPulls();
        fewestByIndex();
        fewestNone();
        withoutDots();
        firstRow();
        fewestBehindChanges();
        soonNow();
        soonFourteen();
        soonNone();
        soonByTheShorterWay();
        soonByThePailBeside();
        soonUnknown();
        hungPlaces();
        hungFull();
        eightPulls();
        hungNone();
        hungHoldsNothing();
        hungFirstByNumbers();
        hungBehindChanges();
        racePulls();
        raceByTheLastPull();
        raceUnknown();
        raceState();
        raceNeither();
        CHECK.end();
    }

    private static void due(String call, long got, long want) {
        CHECK.due(call, got, want);
    }

    private static void fewestOfAllServed() {
        CHECK.of("3", "FEWEST: ROWS .. by which all DOORS are SERVED: how many PULLS");
        PailChain x = new PailChain();
        due("all SERVED: fewest(-1)", x.fewest(-1), 0);
        due("an empty ROW: fewest(0)", x.fewest(0), NONE);
        x.door(0, 6);
        due("DOOR 0 is not: fewest(-1)", x.fewest(-1), 1);
        due("by +", x.fewest(0), '+');
        due("no second sign", x.fewest(1), NONE);
        Check.pull(x, ".");
        due("SERVED by a PULL: fewest(-1)", x.fewest(-1), 0);
    }

    /** From THE WELL: 5 and back, 4 and back, 2 and back, 3: 13; each PLACE that the tight PAIL is away is one more. */
    private static PailChain thirteenAndMore(int away) {
        return Check.oneTight(away, 6, 0, 0, 5, 6, 4, 3);
    }

    private static void fourteenPulls() {
        CHECK.of("3", "ROWS of + and - alone, 14 at most");
        due("13", thirteenAndMore(0).fewest(-1), 13);
        PailChain x = thirteenAndMore(1);
        due("14", x.fewest(-1), 14);
        String row = Model.shortest(Check.modelOf(x).wheel, -1, 14);
        for (int k = 0; k < 14; k++) {
            due("sign " + k + " of 14", x.fewest(k), row.charAt(k));
            x.say(x.fewest(k));
        }
        due("no sign 14", x.fewest(14), NONE);
        due("it serves all", x.after(0), 63);
        due("15", thirteenAndMore(2).fewest(-1), NONE);
        due("15, first sign", thirteenAndMore(2).fewest(0), NONE);
    }

    private static void fewestByIndex() {
        CHECK.of("Promise 12", "FEWEST: PULLS (i = -1), the i-th (its code); NONE.");
        PailChain x = Check.wheel(6, 0, 2, 0, 6, 0, 6);
        due("fewest(-1)", x.fewest(-1), 5);
        String row = "++++-";
        for (int k = 0; k < row.length(); k++) {
            due("fewest(" + k + ")", x.fewest(k), row.charAt(k));
        }
        for (int i : new int[] {DOWN, -7, -2, 5, 6, 13, 14, 15, 31, 32, FAR}) {
            due("fewest(" + i + ")", x.fewest(i), NONE);
        }
    }

    private static void fewestNone() {
        CHECK.of("Promise 12", "NONE.");
        PailChain x = Check.wheel(4, 0, 0, 0, 7);
        due("WANTS one more than DEEP", x.fewest(-1), NONE);
        for (int i = 0; i < 3; i++) {
            due("fewest(" + i + ")", x.fewest(i), NONE);
        }
        due("fewest(-2)", x.fewest(-2), NONE);
        x.door(3, 6);
        due("WANTS just DEEP", x.fewest(-1), 1);
        x.door(0, 7);
        due("DOOR 0 WANTS more than DEEP", x.fewest(-1), NONE);
        PailChain dry = Check.oneTight(9, 3, 0, 1);
        due("all PAILS are dry at DOOR 1", dry.fewest(-1), NONE);
        dry.pail(2, 1, 5);
        due("one drop is left of PAIL 2, when it was filled", dry.fewest(-1), 2);
        dry.door(1, 2);
        due("it WANTS two", dry.fewest(-1), NONE);
    }

    private static void withoutDots() {
        CHECK.of("3", "ROWS of + and - alone");
        // A . alone would serve DOOR 1; PAIL 1 has to go and come back.
        PailChain x = Check.oneTight(1, 3, 0, 3);
        x.pail(0, 0, 0);
        x.pail(1, 0, 3);
        x.say('.');
        due("by .", x.after(11), 1);
        due("fewest(-1)", x.fewest(-1), 2);
        due("soon(1)", x.soon(1), 2);
        PailChain y = Check.oneTight(1, 3, 0, 3);
        y.door(0, 1);
        due("DOOR 0 by any PULL", y.soon(0), 1);
    }

    private static void firstRow() {
        CHECK.of("3", "the first such ROW (+ ahead of -)");
        PailChain x = Check.wheel(3, 0, 6, 6);
        due("+- and -+ serve both", x.fewest(-1), 2);
        due("first sign", x.fewest(0), '+');
        due("second sign", x.fewest(1), '-');
        PailChain y = Check.wheel(9, 0, 0, 0, 0, 0, 0, 0, 0, 6);
        due("a longer one with + is none", y.fewest(-1), 1);
        due("but -", y.fewest(0), '-');
        due("no more", y.fewest(1), NONE);
        PailChain z = Check.wheel(9, 0, 0, 0, 0, 0, 0, 6);
        due("three", z.fewest(-1), 3);
        for (int k = 0; k < 3; k++) {
            due("- alone", z.fewest(k), '-');
        }
    }

    private static void fewestBehindChanges() {
        CHECK.of("2", "From the wheel as it is");
        PailChain x = Check.wheel(5, 0, 0, 6);
        due("two", x.fewest(-1), 2);
        Check.pull(x, "+");
        due("behind a PULL", x.fewest(-1), 1);
        due("soon", x.soon(2), 1);
        x.image(0);
        x.door(2, 0);
        due("behind door", x.fewest(-1), 0);
        x.restore(0);
        due("behind restore", x.fewest(-1), 1);
        x.pail(0, 0, 5);
        due("behind pail", x.fewest(-1), 2);
        x.door(2, 9);
        due("more than DEEP", x.fewest(-1), NONE);
        x.deep(9);
        due("behind deep", x.fewest(-1), 3);
        x.places(5);
        due("behind places", x.fewest(-1), 0);
    }

    private static void soonNow() {
        CHECK.of("3", "SOON: the fewest by which one DOOR is SERVED.");
        PailChain x = Check.wheel(6, 0, 6, 0, 6);
        due("it WANTS nothing", x.soon(0), 0);
        due("DOOR 1", x.soon(1), 1);
        due("DOOR 3, the short way round", x.soon(3), 3);
        Check.pull(x, "+");
        due("DOOR 1 is SERVED now", x.soon(1), 0);
        due("others need not be SERVED", x.soon(5), 0);
        PailChain over = Check.wheel(9, 0, 0, 0, 0, 0, 0, 0, 6, 0);
        due("over PLACE 0, back", over.soon(7), 2);
    }

    /** On the way back lies less: 1 and back, 3 and back, 4: 12 from THE WELL. */
    private static PailChain twelveAndMore(int tight) {
        return Check.oneTight(tight, 8, 0, 5, 5, 3, 4, 6, 0, 4);
    }

    private static void soonFourteen() {
        CHECK.of("3", "14 at most, .. SOON: the fewest");
        due("12", twelveAndMore(0).soon(4), 12);
        due("13", twelveAndMore(7).soon(4), 13);
        due("14", twelveAndMore(6).soon(4), 14);
        due("15", twelveAndMore(5).soon(4), NONE);
    }

    private static void soonNone() {
        CHECK.of("Promise 13", "SOON; NONE.");
        PailChain x = Check.wheel(4, 7, 7, 6, 7);
        due("WANTS one more than DEEP, DOOR 0", x.soon(0), NONE);
        due("WANTS one more than DEEP", x.soon(1), NONE);
        due("WANTS just DEEP", x.soon(2), 2);
        x.deep(7);
        due("DEEP is enough now", x.soon(0), 1);
        due("the first PAIL that is filled is drunk at DOOR 0", x.soon(1), 3);
    }

    private static int way(int n, int door) {
        return Math.min(door, n - door);
    }

    private static PailChain allLeak(int n, int leak) {
        PailChain x = Check.wheel(n);
        x.pail(0, 0, 0);
        x.deep(9);
        for (int k = 0; k < n; k++) {
            x.pail(k, 1, leak);
        }
        return x;
    }

    /** What is filled at THE WELL leaks on the shorter way round: just that much can be had. */
    private static void soonByTheShorterWay() {
        CHECK.of("3", "the fewest by which one DOOR is SERVED");
        for (int n = 3; n <= 9; n++) {
            for (int leak = 0; leak <= 2; leak++) {
                for (int k = 0; k < n; k++) {
                    PailChain x = allLeak(n, leak);
                    int most = 9 - leak * way(n, k);
                    x.door(k, most);
                    due("soon(" + k + ") of " + n, x.soon(k), 1 + way(n, k));
                    due("fewest(-1)", x.fewest(-1), 1 + way(n, k));
                    due("hung(-1)", x.hung(-1), n > 6 ? FULL : Math.max(1, way(n, k)));
                    if (most < 9) {
                        x.door(k, most + 1);
                        due("one more", x.soon(k), NONE);
                        due("one more, all", x.fewest(-1), NONE);
                    }
                }
            }
        }
    }

    private static void soonByThePailBeside() {
        CHECK.of("3", "the fewest by which one DOOR is SERVED");
        for (int n = 4; n <= 9; n++) {
            for (int k = 0; k < n; k++) {
                PailChain x = allLeak(n, 9);
                int beside = (k + 1) % n;
                x.pail(k, 0, 9);
                x.pail(k, 1, 4);
                x.door(beside, 5);
                due("PAIL " + k + " to DOOR " + beside, x.soon(beside), 1);
                PailChain y = allLeak(n, 9);
                y.pail(beside, 0, 9);
                y.pail(beside, 1, 4);
                y.door(k, 5);
                due("PAIL " + beside + " to DOOR " + k, y.soon(k), 1);
            }
        }
    }

    private static void soonUnknown() {
        CHECK.of("Promise 13", "UNKNOWN.");
        for (int n = 3; n <= 9; n++) {
            PailChain x = Check.wheel(n);
            due("the last", x.soon(n - 1), 0);
            due("one more", x.soon(n), UNKNOWN);
            due("-1 is none", x.soon(-1), UNKNOWN);
        }
    }

    private static void hungPlaces() {
        CHECK.of("Promise 14", "HUNG: PULLS (i = -1), the PAIL at PLACE i");
        for (int n = 3; n <= 6; n++) {
            PailChain x = Check.wheel(n);
            due("all SERVED, of " + n, x.hung(-1), 0);
            for (int k = 0; k < n; k++) {
                due("the first order, PLACE " + k, x.hung(k), k);
            }
            for (int i : new int[] {DOWN, -2, n, n + 1, 7, FAR}) {
                due("hung(" + i + ") of " + n, x.hung(i), NONE);
            }
        }
    }

    private static void hungFull() {
        CHECK.of("Promise 14", "FULL: more than 6 PLACES.");
        for (int n = 7; n <= 9; n++) {
            PailChain x = Check.wheel(n, 1, 2);
            for (int i : new int[] {DOWN, -2, -1, 0, 5, 6, n - 1, n, FAR}) {
                due("hung(" + i + ") of " + n, x.hung(i), FULL);
            }
            x.door(0, 9);
            due("by no order, of " + n, x.hung(-1), FULL);
            x.places(n);
            due("all SERVED, of " + n, x.hung(-1), FULL);
            x.places(6);
            due("of six again", x.hung(-1), 0);
        }
    }

    private static void eightPulls() {
        CHECK.of("3", "FEWEST (of 8 PULLS at most)");
        // The tight PAIL is best at PLACE 0: 1 and back, 2 and back, 2: 8; with 3 at the end: 9.
        PailChain x = Check.oneTight(3, 6, 0, 0, 6, 0, 6, 6);
        due("8", x.hung(-1), 8);
        int[] order = {3, 0, 1, 2, 4, 5};
        for (int k = 0; k < 6; k++) {
            due("PLACE " + k, x.hung(k), order[k]);
        }
        PailChain y = Check.oneTight(0, 6, 0, 0, 0, 6, 6, 6);
        due("9 by FEWEST", y.fewest(-1), 9);
        due("9", y.hung(-1), NONE);
        due("9, PLACE 0", y.hung(0), NONE);
    }

    private static void hungNone() {
        CHECK.of("Promise 14", "NONE: by no order.");
        PailChain x = Check.wheel(4, 0, 0, 7);
        due("WANTS one more than DEEP", x.hung(-1), NONE);
        for (int i = 0; i < 4; i++) {
            due("PLACE " + i, x.hung(i), NONE);
        }
        x.door(2, 6);
        due("WANTS just DEEP", x.hung(-1), 2);
        due("PLACE 3", x.hung(3), 3);
        x.door(2, 7);
        due("one more again", x.hung(-1), NONE);
        due("PLACE 3 again", x.hung(3), NONE);
    }

    private static void hungHoldsNothing() {
        CHECK.of("3", "none holding anything but that at PLACE 0, which HOLDS DEEP; DOORS that are not SERVED as they are");
        PailChain x = Check.wheel(4, 0, 0, 6);
        x.pail(1, 0, 6);
        x.pail(2, 0, 6);
        x.pail(3, 0, 6);
        due("as it is", x.fewest(-1), 1);
        due("hung anew", x.hung(-1), 2);
        x.pail(0, 0, 0);
        due("that at PLACE 0 HOLDS DEEP", x.hung(-1), 2);
        Check.pull(x, "+");
        due("DOOR 2 is SERVED", x.hung(-1), 0);
        x.door(1, 6);
        due("DOOR 1 is not", x.hung(-1), 1);
        due("nothing is hung in truth", x.told(10), 1);
        due("nor filled", x.told(21), 0);
    }

    private static void hungFirstByNumbers() {
        CHECK.of("3", "the order by which FEWEST .. is least, the first by numbers");
        // DOOR 5 by one -: any PAIL that does not leak may hang at PLACE 0; PAIL 2 is the first.
        PailChain x = Check.wheel(6, 0, 0, 0, 0, 0, 6);
        x.pail(0, 1, 1);
        x.pail(1, 1, 1);
        due("one PULL", x.hung(-1), 1);
        int[] order = {2, 0, 1, 3, 4, 5};
        for (int k = 0; k < 6; k++) {
            due("PLACE " + k, x.hung(k), order[k]);
        }
        // Any order will do for 5: the first of all is taken though another one leaks less.
        x.door(5, 5);
        for (int k = 0; k < 6; k++) {
            due("PLACE " + k + ", of 5", x.hung(k), k);
        }
        PailChain last = Check.oneTight(2, 3, 0, 6);
        int[] end = {2, 0, 1};
        for (int k = 0; k < 3; k++) {
            due("the last PAIL ahead, PLACE " + k, last.hung(k), end[k]);
        }
    }

    private static void hungBehindChanges() {
        CHECK.of("3", "HUNG: PAILS hang in another order");
        PailChain x = Check.wheel(4, 0, 0, 5);
        x.image(0);
        due("two", x.hung(-1), 2);
        due("PAIL 0", x.hung(0), 0);
        x.pail(0, 1, 1);
        due("behind pail", x.hung(0), 1);
        x.deep(9);
        due("behind deep", x.hung(0), 0);
        x.door(2, 8);
        due("behind door", x.hung(0), 1);
        x.restore(0);
        due("behind restore", x.hung(0), 0);
        x.pail(0, 1, 1);
        due("behind pail again", x.hung(0), 1);
        Check.pull(x, "--");
        due("behind a PULL, not yet SERVED", x.hung(0), 1);
        Check.pull(x, "--");
        due("behind a PULL", x.hung(-1), 0);
        x.places(3);
        due("behind places", x.hung(3), NONE);
    }

    private static void racePulls() {
        CHECK.of("3", "m PULLS at most (1 to 10)");
        PailChain x = Check.wheel(9, 0, 9, 0, 0, 9);
        for (int m = 1; m <= 10; m++) {
            due("race(1, 4, " + m + "), nobody can", x.race(1, 4, m), 2);
        }
        CHECK.of("Promise 15", "OUTSIDE");
        for (int m : new int[] {DOWN, -10, -1, 0, 11, 12, 99, FAR}) {
            due("race(1, 4, " + m + ")", x.race(1, 4, m), OUTSIDE);
        }
    }

    private static void raceByTheLastPull() {
        CHECK.of("3", "who can bring it about, whatever the other one does, that he is SERVED ahead of him (by fewer PULLS): 0 the first, 1 the second, 2 neither.");
        PailChain x = Check.wheel(9, 0, 6, 0, 0, 6);
        due("the first by the first PULL", x.race(1, 4, 1), 0);
        due("the second not by the first PULL", x.race(4, 1, 1), 2);
        due("the second by the second PULL", x.race(4, 1, 2), 1);
        due("and so with more", x.race(4, 1, 10), 1);
        PailChain minus = Check.wheel(6, 0, 0, 0, 6, 0, 6);
        due("the first by -, where + would be nobody's", minus.race(5, 3, 1), 0);
        PailChain dot = Check.wheel(6, 0, 0, 0, 6, 0, 6);
        dot.pail(3, 0, 6);
        due("the first by ., where others would be nobody's", dot.race(3, 5, 1), 0);
        due("the other one by -", dot.race(5, 3, 1), 0);
        PailChain late = Check.wheel(7, 4, 0, 2, 5, 5, 4, 6);
        due("the second by the tenth PULL", late.race(3, 2, 10), 1);
        due("not by nine", late.race(3, 2, 9), 2);
        PailChain well = Check.wheel(4, 3, 0, 6);
        due("DOOR 0 by any PULL", well.race(2, 0, 1), 1);
        due("DOOR 0 by its own", well.race(0, 2, 1), 0);
    }

    private static void raceUnknown() {
        CHECK.of("Promise 15", "UNKNOWN: also both are one");
        PailChain x = Check.wheel(4, 1, 1, 1, 1);
        for (int k = 0; k < 4; k++) {
            due("race(" + k + ", " + k + ", 1)", x.race(k, k, 1), UNKNOWN);
        }
        due("race(3, 0, 1), DOOR 0 at once with it", x.race(3, 0, 1), 2);
        for (int k : new int[] {DOWN, -1, 4, 5, FAR}) {
            due("race(" + k + ", 0, 1)", x.race(k, 0, 1), UNKNOWN);
            due("race(0, " + k + ", 1)", x.race(0, k, 1), UNKNOWN);
            due("race(" + k + ", " + k + ", 1)", x.race(k, k, 1), UNKNOWN);
        }
    }

    private static void raceState() {
        CHECK.of("Promise 15", "STATE: one of them is SERVED.");
        PailChain x = Check.wheel(4, 0, 6, 6);
        due("the other one WANTS nothing", x.race(1, 3, 1), STATE);
        due("the first WANTS nothing", x.race(3, 1, 1), STATE);
        due("both WANT nothing", x.race(0, 3, 1), STATE);
        due("neither is SERVED", x.race(1, 2, 1), 0);
        Check.pull(x, "+");
        due("SERVED by a PULL", x.race(1, 2, 1), STATE);
        due("SERVED by a PULL, the other one", x.race(2, 1, 10), STATE);
        x.door(1, 6);
        due("its WANT came anew", x.race(1, 2, 1), 0);
    }

    private static void raceNeither() {
        CHECK.of("3", "2 neither");
        // Whoever PULLS serves both at once.
        PailChain x = Check.wheel(3, 3, 3);
        for (int k = 0; k < 3; k++) {
            x.pail(k, 0, 6);
        }
        for (int m = 1; m <= 10; m++) {
            due("both at once, " + m, x.race(0, 1, m), 2);
        }
        PailChain y = Check.wheel(4, 0, 7, 0, 7);
        due("nobody can", y.race(1, 3, 10), 2);
        y.deep(7);
        for (int m = 1; m <= 10; m++) {
            due("as the model tries all, " + m, y.race(1, 3, m), Check.modelOf(y).race(1, 3, m));
        }
    }
}
