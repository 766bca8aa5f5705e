/** Section 1 of the document, and promises 1 to 9: the last that is taken, the first that is refused. */
public final class WheelEdgeTest {
    private static final Check CHECK = new Check("WheelEdgeTest");
    private static final int UNKNOWN = Check.UNKNOWN, OUTSIDE = Check.OUTSIDE, STATE = Check.STATE;
    private static final int FULL = Check.FULL, NO = Check.NO, NONE = Check.NONE;
    private static final int FAR = Check.FAR, DOWN = Check.DOWN;

    private WheelEdgeTest() {
    }

    public static void main(String[] args) {
        newObject();
        placesTaken();
        placesRefused();
        placesAnew();
        asManyPails();
        asManyDoors();
        atFirst();
        holds();
        holdsByDeep();
        leaks();
        wants();
        served();
        deepTaken();
        deepState();
        plusTurnsOverTheLast();
        minusTurnsBelowTheFirst();
        roundAndRound();
        leakTurnsWithItsPail();
        leaksToNothing();
        leaksAheadOfFilling();
        notFilledOnceMore();
        wantsNoMoreThanHeld();
        takesJustThat();
        nobodyPulls();
        padSigns();
        padIsFull();
        wiped();
        signsOfARow();
        faultPlaces();
        pulled();
        pullRefused();
        CHECK.end();
    }

    private static void due(String call, long got, long want) {
        CHECK.due(call, got, want);
    }

    private static void newObject() {
        CHECK.of("Promise 1", "Six PAILS.");
        PailChain x = new PailChain();
        due("PLACES", x.told(1), 6);
        due("PAIL 5", x.told(15), 5);
        due("PAIL 6", x.told(16), OUTSIDE);
        due("signs", x.told(0), 0);
        due("WORDS", x.told(4), 0);
        due("SIGHTS", x.told(5), 0);
        due("IMAGE 0", x.restore(0), STATE);
        due("IMAGE 1", x.restore(1), STATE);
    }

    private static void placesTaken() {
        CHECK.of("1", "PLACES 0 to n less 1 (n 3 to 9; 6 at first)");
        PailChain x = new PailChain();
        int was = 6;
        for (int n : new int[] {3, 9, 8, 7, 6, 5, 4, 3, 4, 9, 9}) {
            due("places(" + n + ")", x.places(n), was);
            due("PLACES", x.told(1), n);
            due("the last PAIL", x.told(10 + n - 1), n - 1);
            due("no PAIL more", x.told(10 + n), OUTSIDE);
            was = n;
        }
    }

    private static void placesRefused() {
        CHECK.of("Promise 2", "How many PLACES there are: which it was. .. OUTSIDE.");
        PailChain x = Check.wheel(5);
        for (int n : new int[] {DOWN, -9, -3, -1, 0, 1, 2, 10, 11, 99, FAR}) {
            due("places(" + n + ")", x.places(n), OUTSIDE);
            due("PLACES", x.told(1), 5);
        }
    }

    private static void placesAnew() {
        CHECK.of("Promise 2", "PAILS, DOORS, SIGHTS are as at first then.");
        for (int n = 3; n <= 9; n++) {
            PailChain x = Check.wheel(6, 9, 8, 7, 6, 5, 4);
            x.deep(9);
            for (int k = 0; k < 6; k++) {
                x.pail(k, 0, k + 1);
                x.pail(k, 1, 9 - k);
            }
            Check.pull(x, "+");
            x.seen(0, 0, false);
            Check.say(x, "-.!");
            due("places(" + n + ")", x.places(n), 6);
            for (int k = 0; k < n; k++) {
                due("PLACE of PAIL " + k, x.told(10 + k), k);
                due("PAIL " + k + " HOLDS", x.told(20 + k), k == 0 ? 9 : 0);
                due("PAIL " + k + " LEAKS", x.told(30 + k), 0);
                due("DOOR " + k + " WANTS", x.told(40 + k), 0);
            }
            due("SERVED", x.told(3), (1 << n) - 1);
            due("SIGHTS", x.told(5), 0);
            due("no SIGHT counts", x.came(2, -1), 9);
            due("DEEP stays", x.told(2), 9);
            due("the PAD stays", x.fault(), 2);
        }
    }

    private static void asManyPails() {
        CHECK.of("1", "as many PAILS");
        for (int n = 3; n <= 9; n++) {
            PailChain x = Check.wheel(n);
            due("PAIL 0", x.pail(0, 1, 1), 0);
            due("the last PAIL", x.pail(n - 1, 1, 1), 0);
            due("behind, the last PAIL", x.behind(n - 1, 0), n - 1);
            for (int k : new int[] {DOWN, -n, -1, n, n + 1, 10, FAR}) {
                due("pail(" + k + ", 0, 0) of " + n, x.pail(k, 0, 0), UNKNOWN);
                due("pail(" + k + ", 1, 0) of " + n, x.pail(k, 1, 0), UNKNOWN);
                due("behind(" + k + ", 0) of " + n, x.behind(k, 0), UNKNOWN);
                due("behind(" + k + ", 1) of " + n, x.behind(k, 1), UNKNOWN);
            }
        }
    }

    private static void asManyDoors() {
        CHECK.of("1", "as many PAILS and DOORS");
        for (int n = 3; n <= 9; n++) {
            PailChain x = Check.wheel(n);
            due("DOOR 0", x.door(0, 9), 0);
            due("the last DOOR", x.door(n - 1, 9), 0);
            due("soon, the last DOOR", x.soon(n - 1), NONE);
            due("race, the last DOOR", x.race(0, n - 1, 1), 2);
            due("race, the last DOOR first", x.race(n - 1, 0, 1), 2);
            due("widow, the last DOOR", x.widow(1, 1, 2, n - 1, 0), 0);
            due("seen, the last DOOR", x.seen(1, n - 1, false), 1);
            due("after, the last DOOR", x.after(10 + n - 1), NONE);
            due("after, no DOOR", x.after(10 + n), OUTSIDE);
            for (int k : new int[] {DOWN, -n, -2, n, n + 1, 10, FAR}) {
                due("door(" + k + ", 0) of " + n, x.door(k, 0), UNKNOWN);
                due("soon(" + k + ") of " + n, x.soon(k), UNKNOWN);
                due("race(" + k + ", 0, 1) of " + n, x.race(k, 0, 1), UNKNOWN);
                due("race(0, " + k + ", 1) of " + n, x.race(0, k, 1), UNKNOWN);
                due("widow(1, 1, 2, " + k + ", 0) of " + n, x.widow(1, 1, 2, k, 0), Check.GONE + UNKNOWN);
                due("seen(1, " + k + ", true) of " + n, x.seen(1, k, true), UNKNOWN);
            }
            due("door(-1, 0)", x.door(-1, 0), UNKNOWN);
            due("soon(-1)", x.soon(-1), UNKNOWN);
            due("race(-1, 0, 1)", x.race(-1, 0, 1), UNKNOWN);
            due("race(0, -1, 1)", x.race(0, -1, 1), UNKNOWN);
            due("seen(1, -1, true)", x.seen(1, -1, true), UNKNOWN);
        }
    }

    private static void atFirst() {
        CHECK.of("1", "At first PAIL 0 HOLDS DEEP, the others nothing.");
        PailChain x = new PailChain();
        for (int k = 0; k < 6; k++) {
            due("PAIL " + k + " at PLACE", x.told(10 + k), k);
            due("PAIL " + k + " HOLDS", x.told(20 + k), k == 0 ? 6 : 0);
            due("PAIL " + k + " LEAKS", x.told(30 + k), 0);
            due("DOOR " + k + " WANTS", x.told(40 + k), 0);
        }
        due("DEEP", x.told(2), 6);
        due("SERVED", x.told(3), 63);
    }

    private static void holds() {
        CHECK.of("1", "A PAIL HOLDS 0 to DEEP (..; 6 at first)");
        PailChain x = new PailChain();
        int was = 6;
        for (int v : new int[] {0, 6, 1, 5, 6, 0}) {
            due("pail(0, 0, " + v + ")", x.pail(0, 0, v), was);
            due("it HOLDS", x.told(20), v);
            was = v;
        }
        for (int v : new int[] {DOWN, -1, 7, 9, FAR}) {
            due("pail(0, 0, " + v + ")", x.pail(0, 0, v), OUTSIDE);
            due("it HOLDS", x.told(20), 0);
        }
        CHECK.of("Promise 3", "Of a PAIL: 0 what it HOLDS .., 1 what it LEAKS: which it was. UNKNOWN; OUTSIDE.");
        for (int what : new int[] {DOWN, -1, 2, 3, FAR}) {
            due("pail(0, " + what + ", 0)", x.pail(0, what, 0), OUTSIDE);
        }
    }

    private static void holdsByDeep() {
        CHECK.of("Promise 3", "Of a PAIL: 0 what it HOLDS (0 to DEEP)");
        for (int deep = 1; deep <= 9; deep++) {
            PailChain x = Check.wheel(9);
            x.pail(0, 0, 0);
            x.deep(deep);
            for (int k = 0; k < 9; k++) {
                due("just DEEP " + deep + " in PAIL " + k, x.pail(k, 0, deep), 0);
                due("one more", x.pail(k, 0, deep + 1), OUTSIDE);
                due("one less than nothing", x.pail(k, 0, -1), OUTSIDE);
                due("nothing", x.pail(k, 0, 0), deep);
            }
        }
    }

    private static void leaks() {
        CHECK.of("1", "LEAKS 0 to 9 (0 at first)");
        PailChain x = Check.wheel(9);
        x.pail(0, 0, 0);
        x.deep(1);
        for (int k = 0; k < 9; k++) {
            due("9, whatever DEEP is", x.pail(k, 1, 9), 0);
            due("0", x.pail(k, 1, 0), 9);
            due("1", x.pail(k, 1, 1), 0);
            for (int v : new int[] {DOWN, -1, 10, 16, FAR}) {
                due("pail(" + k + ", 1, " + v + ")", x.pail(k, 1, v), OUTSIDE);
            }
            due("it LEAKS", x.told(30 + k), 1);
        }
    }

    private static void wants() {
        CHECK.of("1", "A DOOR WANTS 0 to 9 (0 at first: nothing; it is SERVED then)");
        PailChain x = Check.wheel(9);
        x.pail(0, 0, 0);
        x.deep(1);
        for (int k = 0; k < 9; k++) {
            due("at first", x.told(40 + k), 0);
            due("9, whatever DEEP is", x.door(k, 9), 0);
            due("1", x.door(k, 1), 9);
            for (int v : new int[] {DOWN, -1, 10, 16, FAR}) {
                due("door(" + k + ", " + v + ")", x.door(k, v), OUTSIDE);
            }
            due("it WANTS", x.told(40 + k), 1);
            due("SERVED but this one", x.told(3), 511 & ~(1 << k));
            due("0", x.door(k, 0), 1);
            due("all SERVED", x.told(3), 511);
        }
    }

    private static void served() {
        CHECK.of("Promise 4", "What a DOOR WANTS (it is SERVED, if that is 0, else not): which it was.");
        PailChain x = Check.wheel(3, 6);
        due("not SERVED, though PAIL 0 HOLDS so much", x.told(3), 6);
        due(".", Check.pull(x, "."), 1);
        due("SERVED", x.told(3), 7);
        due("the same WANT anew", x.door(0, 6), 6);
        due("not SERVED", x.told(3), 6);
        Check.pull(x, ".");
        due("a smaller WANT", x.door(0, 1), 6);
        due("not SERVED either", x.told(3), 6);
        due("no WANT", x.door(0, 0), 1);
        due("SERVED without a PULL", x.told(3), 7);
        due("no WANT once more", x.door(0, 0), 0);
        due("SERVED still", x.told(3), 7);
    }

    private static void deepTaken() {
        CHECK.of("1", "DEEP (1 to 9; 6 at first)");
        PailChain x = new PailChain();
        x.pail(0, 0, 0);
        int was = 6;
        for (int v : new int[] {1, 9, 2, 8, 1}) {
            due("deep(" + v + ")", x.deep(v), was);
            due("DEEP", x.told(2), v);
            was = v;
        }
        for (int v : new int[] {DOWN, -1, 0, 10, 11, FAR}) {
            due("deep(" + v + ")", x.deep(v), OUTSIDE);
            due("DEEP", x.told(2), 1);
        }
        due("PAIL 0 is not filled by it", x.told(20), 0);
        Check.pull(x, ".");
        due("but by a PULL", x.told(20), 1);
    }

    private static void deepState() {
        CHECK.of("Promise 5", "STATE: a PAIL HOLDS more.");
        for (int n = 3; n <= 9; n++) {
            for (int k = 0; k < n; k++) {
                PailChain x = Check.wheel(n);
                x.pail(0, 0, 0);
                x.pail(k, 0, 5);
                due("one less than PAIL " + k + " HOLDS", x.deep(4), STATE);
                due("far less", x.deep(1), STATE);
                due("DEEP stays", x.told(2), 6);
                due("just what it HOLDS", x.deep(5), 6);
                due("more", x.deep(9), 5);
            }
        }
    }

    private static void plusTurnsOverTheLast() {
        CHECK.of("1", "+ brings each PAIL to the next PLACE (from the last one to PLACE 0)");
        for (int n = 3; n <= 9; n++) {
            PailChain x = Check.wheel(n);
            for (int k = 0; k < n; k++) {
                x.pail(k, 0, k % 7);
            }
            Check.pull(x, "+");
            for (int k = 0; k < n; k++) {
                due("PAIL " + k + " of " + n, x.told(10 + k), k == n - 1 ? 0 : k + 1);
                due("it HOLDS", x.told(20 + k), k == n - 1 ? 6 : k % 7);
            }
        }
    }

    private static void minusTurnsBelowTheFirst() {
        CHECK.of("1", "- to the one ahead");
        for (int n = 3; n <= 9; n++) {
            PailChain x = Check.wheel(n);
            for (int k = 0; k < n; k++) {
                x.pail(k, 0, (k + 3) % 7);
            }
            Check.pull(x, "-");
            for (int k = 0; k < n; k++) {
                due("PAIL " + k + " of " + n, x.told(10 + k), k == 0 ? n - 1 : k - 1);
                due("it HOLDS", x.told(20 + k), k == 1 ? 6 : (k + 3) % 7);
            }
        }
    }

    private static void roundAndRound() {
        CHECK.of("1", "from the last one to PLACE 0");
        for (int n = 3; n <= 9; n++) {
            PailChain x = Check.wheel(n);
            PailChain y = Check.wheel(n);
            for (int turns = 1; turns <= 2 * n + 1; turns++) {
                Check.pull(x, "+");
                Check.pull(y, "-");
                for (int k = 0; k < n; k++) {
                    due("PAIL " + k + " of " + n + " behind " + turns, x.told(10 + k), (k + turns) % n);
                    due("PAIL " + k + " of " + n + " behind " + turns + " back", y.told(10 + k), (k + 3 * n - turns) % n);
                }
            }
            x.wipe();
            Check.say(x, "++++++++++++++++++++++++++++++++++++++++");
            due("40 more", x.behind(0, 0), (2 * n + 1 + 40) % n);
            y.wipe();
            Check.say(y, "----------------------------------------");
            due("40 back", y.behind(0, 0), Math.floorMod(-2 * n - 1 - 40, n));
        }
    }

    private static void leakTurnsWithItsPail() {
        CHECK.of("1", "then each PAIL LEAKS");
        for (int n = 3; n <= 9; n++) {
            PailChain x = Check.wheel(n);
            x.pail(n - 1, 1, 2);
            x.pail(0, 1, 3);
            Check.pull(x, "+");
            due("PAIL 0 leaked", x.told(20), 3);
            due("the last one was filled behind its leak", x.told(20 + n - 1), 6);
            Check.pull(x, "-");
            due("PAIL 0 was filled", x.told(20), 6);
            due("the last one leaked, over PLACE 0", x.told(20 + n - 1), 4);
            Check.pull(x, "-");
            due("PAIL 0 leaked, over PLACE 0", x.told(20), 3);
            due("PAIL 1 was filled", x.told(21), 6);
            due("the last one leaked again", x.told(20 + n - 1), 2);
            due("what PAIL 0 LEAKS stays its own", x.told(30), 3);
            due("what the last one LEAKS stays its own", x.told(30 + n - 1), 2);
            due("what PAIL 1 LEAKS", x.told(31), 0);
        }
    }

    private static void leaksToNothing() {
        CHECK.of("1", "each PAIL LEAKS (to 0 at least)");
        for (int holds = 0; holds <= 9; holds++) {
            for (int leak = 0; leak <= 9; leak++) {
                PailChain x = Check.wheel(4);
                x.deep(9);
                x.pail(0, 0, 9);
                x.pail(2, 0, holds);
                x.pail(2, 1, leak);
                x.say('.');
                due("what is LEAKED by " + leak + " of " + holds, x.after(2), Math.min(leak, holds));
                due("it HOLDS", x.behind(2, 1), Math.max(0, holds - leak));
                x.say('.');
                due("LEAKED twice", x.after(2), Math.min(2 * leak, holds));
                due("drawn", x.after(1), 0);
                x.pull();
                due("it HOLDS behind two", x.told(22), Math.max(0, holds - 2 * leak));
                due("its neighbours", x.told(21) + x.told(23), 0);
            }
        }
    }

    private static void leaksAheadOfFilling() {
        CHECK.of("1", "then each PAIL LEAKS ..; then that at PLACE 0 HOLDS DEEP");
        PailChain x = Check.wheel(3);
        x.pail(0, 1, 4);
        x.say('.');
        due("LEAKED at THE WELL", x.after(2), 4);
        due("drawn", x.after(1), 4);
        due("it HOLDS DEEP", x.behind(0, 1), 6);
        x.wipe();
        x.pail(0, 1, 9);
        x.say('.');
        due("LEAKED, all", x.after(2), 6);
        due("drawn, all", x.after(1), 6);
        due("it HOLDS DEEP", x.behind(0, 1), 6);
        CHECK.of("1", "then each DOOR");
        PailChain y = Check.wheel(3, 6, 6);
        y.pail(0, 1, 1);
        due("DOOR 0 takes of what was filled, DOOR 1 not what was leaked", Check.pull(y, "+"), 1);
        y.door(1, 5);
        Check.pull(y, "-");
        due("DOOR 1 takes all that did not leak", Check.pull(y, "+"), 2);
        due("nothing is left", y.told(20), 0);
    }

    private static void notFilledOnceMore() {
        CHECK.of("1", "takes just that (that at PLACE 0 is not filled once more)");
        for (int want = 1; want <= 6; want++) {
            PailChain x = Check.wheel(3, want);
            due("DOOR 0", Check.pull(x, "."), 1);
            due("PAIL 0 HOLDS less", x.told(20), 6 - want);
            x.say('.');
            due("the next PULL fills it", x.behind(0, 1), 6);
            due("by so much", x.after(1), want);
            x.wipe();
            x.say('+');
            due("or it goes as it is", x.behind(0, 1), 6 - want);
        }
    }

    private static void wantsNoMoreThanHeld() {
        CHECK.of("1", "each DOOR by numbers that is not SERVED and WANTS no more than the PAIL there HOLDS");
        for (int n = 3; n <= 9; n++) {
            for (int k = 1; k < n; k++) {
                PailChain x = Check.wheel(n);
                x.pail(k, 0, 4);
                x.door(k, 5);
                due("one more than PAIL " + k + " HOLDS", Check.pull(x, "."), 0);
                due("nothing is taken", x.told(20 + k), 4);
                x.door(k, 4);
                due("just what it HOLDS", Check.pull(x, "."), 1 << k);
                due("all is taken", x.told(20 + k), 0);
            }
        }
        PailChain well = Check.wheel(3, 7);
        due("one more than DEEP", Check.pull(well, ".++-"), 0);
        well.door(0, 6);
        due("just DEEP", Check.pull(well, "."), 1);
        PailChain most = Check.wheel(3, 9, 0, 9);
        most.deep(9);
        due("9 of 9", Check.pull(most, "-"), 1);
        due("9 of 9, from THE WELL", Check.pull(most, ".-"), 4);
    }

    private static void takesJustThat() {
        CHECK.of("1", "takes just that .. and is SERVED");
        PailChain x = Check.wheel(4, 0, 2, 3);
        due("DOOR 1", Check.pull(x, "+"), 2);
        due("four are left", x.told(20), 4);
        due("SERVED takes no more", Check.pull(x, "."), 0);
        due("four still", x.told(20), 4);
        due("DOOR 2", Check.pull(x, "+"), 4);
        due("one is left", x.told(20), 1);
        due("its WANT stays", x.told(42), 3);
    }

    private static void nobodyPulls() {
        CHECK.of("1", "A . (nobody PULLS): all that but the turning.");
        PailChain x = Check.wheel(4, 2, 0, 1);
        x.pail(0, 0, 0);
        x.pail(2, 0, 3);
        x.pail(2, 1, 1);
        x.pail(3, 0, 5);
        x.pail(3, 1, 9);
        due("DOORS 0 and 2", Check.pull(x, "."), 5);
        int[] holds = {4, 0, 1, 0};
        for (int k = 0; k < 4; k++) {
            due("PAIL " + k + " at", x.told(10 + k), k);
            due("PAIL " + k + " HOLDS", x.told(20 + k), holds[k]);
        }
    }

    private static void padSigns() {
        CHECK.of("1", "signs (codes 33 to 126)");
        PailChain x = new PailChain();
        for (int sign : new int[] {DOWN, -43, -1, 0, 10, 31, 32, 127, 128, 255, 299, 65579, FAR}) {
            due("say(" + sign + ")", x.say(sign), OUTSIDE);
        }
        due("signs", x.told(0), 0);
        for (int sign = 33; sign <= 126; sign++) {
            due("say(" + sign + ")", x.say(sign), 1);
            due("wipe()", x.wipe(), 1);
        }
    }

    private static void padIsFull() {
        CHECK.of("1", "a PAD of up to 40 signs");
        CHECK.of("Promise 6", "A sign more: how many. OUTSIDE; FULL.");
        PailChain x = new PailChain();
        for (int k = 1; k <= 40; k++) {
            due("sign " + k, x.say("+-.a".charAt(k % 4)), k);
        }
        due("the 41st", x.say('+'), FULL);
        due("the 41st, with a FAULT", x.say('~'), FULL);
        due("signs", x.told(0), 40);
        due("wipe()", x.wipe(), 40);
        due("the first anew", x.say('+'), 1);
    }

    private static void wiped() {
        CHECK.of("Promise 7", "Signs go: how many there were.");
        PailChain x = new PailChain();
        due("of an empty PAD", x.wipe(), 0);
        Check.say(x, "x+");
        due("of two", x.wipe(), 2);
        due("none", x.told(0), 0);
        due("the FAULT went too", x.fault(), NONE);
        x.say('-');
        due("nothing of them comes back", x.behind(0, 0), 5);
        due("of one", x.wipe(), 1);
        due("of none again", x.wipe(), 0);
    }

    private static void signsOfARow() {
        CHECK.of("1", "A ROW is a text .. of + - and . alone.");
        PailChain x = new PailChain();
        for (int sign = 33; sign <= 126; sign++) {
            x.wipe();
            x.say(sign);
            boolean isRow = sign == 43 || sign == 45 || sign == 46;
            due("fault() of " + sign, x.fault(), isRow ? NONE : 0);
            due("after(0) of " + sign, x.after(0), isRow ? 63 : NO);
        }
    }

    private static void faultPlaces() {
        CHECK.of("1", "THE FAULT: the place (from 0 on) of the first sign that is another one.");
        CHECK.of("Promise 8", "THE FAULT; NONE.");
        PailChain x = new PailChain();
        due("of an empty PAD", x.fault(), NONE);
        for (int at : new int[] {0, 1, 2, 20, 38, 39}) {
            x.wipe();
            for (int k = 0; k < at; k++) {
                x.say("+-.".charAt(k % 3));
            }
            due("ahead of it", x.fault(), NONE);
            x.say(',');
            due("at " + at, x.fault(), at);
            x.say('/');
            due("the first one of two", x.fault(), at);
        }
        PailChain full = new PailChain();
        for (int k = 0; k < 40; k++) {
            full.say('.');
        }
        due("of 40 that are right", full.fault(), NONE);
    }

    private static void pulled() {
        CHECK.of("Promise 9", "The ROW on the PAD is done (it is empty then): DOORS that it SERVED, as bits.");
        PailChain x = Check.wheel(9, 1, 1, 1, 1, 1, 1, 1, 1, 1);
        x.deep(9);
        due("of an empty PAD", x.pull(), 0);
        due("nothing was filled by it", x.told(20), 6);
        due("nobody SERVED", x.told(3), 0);
        due("+", Check.pull(x, "+"), 3);
        due("the PAD is empty", x.told(0), 0);
        due("a second time: nothing", x.pull(), 0);
        due("PAIL 0 stays", x.told(10), 1);
        due("but not those that were SERVED", Check.pull(x, "+"), 4);
        due("the last DOOR", Check.pull(x, "-"), 256);
        due("40 PULLS", Check.pull(x, "++++++++++++++++++++++++++++++++++++++++"), 504 - 256);
        due("all SERVED", x.told(3), 511);
    }

    private static void pullRefused() {
        CHECK.of("Promise 9", "NO: there is a FAULT.");
        for (String row : new String[] {"x", "+x", "x+", "+-.x.-+", "0"}) {
            PailChain x = Check.wheel(4, 3, 3);
            Check.say(x, row);
            due("pull() of " + row, x.pull(), NO);
            due("the PAD stays", x.told(0), row.length());
            due("PAIL 0 stays", x.told(10), 0);
            due("nobody SERVED", x.told(3), 12);
            x.wipe();
            due("behind wipe", x.pull(), 0);
        }
    }
}
