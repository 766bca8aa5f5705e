/** Each promise of the document in turn: ordinary inputs, the edges it names, wrong inputs. */
public final class PromiseTest {
    private static final int UNKNOWN = -1, OUTSIDE = -2, STATE = -3, FULL = -4, NO = -5, NONE = -6;
    private static final long GONE = -1000000000000000000L;
    private static final int FAR = Integer.MAX_VALUE, DOWN = Integer.MIN_VALUE;

    private static int checked = 0;
    private static int wrong = 0;
    private static String promise = "";

    private PromiseTest() {
    }

    private static void due(String what, long got, long want) {
        checked++;
        if (got != want) {
            wrong++;
            System.out.println("promise " + promise + ": " + what + " is " + got + ", due is " + want);
        }
    }

    private static void say(PailChain x, String row) {
        for (int k = 0; k < row.length(); k++) {
            x.say(row.charAt(k));
        }
    }

    private static int pull(PailChain x, String row) {
        x.wipe();
        say(x, row);
        return x.pull();
    }

    private static int word(PailChain x, String row) {
        x.wipe();
        say(x, row);
        return x.word();
    }

    private static PailChain wheel(int n, int... wants) {
        PailChain x = new PailChain();
        x.places(n);
        for (int k = 0; k < wants.length; k++) {
            x.door(k, wants[k]);
        }
        return x;
    }

    /** The plain model, which tries all, with the same wheel, no PAIL of which has moved. */
    private static Model modelOf(PailChain x) {
        Model model = new Model();
        model.places(x.told(1));
        for (int k = 0; k < x.told(1); k++) {
            model.pail(k, 0, x.told(20 + k));
            model.pail(k, 1, x.told(30 + k));
            model.door(k, x.told(40 + k));
        }
        return model;
    }

    public static void main(String[] args) {
        constants();
        newObject();
        places();
        pail();
        door();
        deep();
        say();
        wipe();
        fault();
        pull();
        behind();
        after();
        fewest();
        soon();
        hung();
        race();
        widow();
        word();
        drop();
        apart();
        seen();
        forget();
        came();
        could();
        day();
        image();
        restore();
        told();
        System.out.println("PromiseTest: " + checked + " answers checked, " + wrong + " wrong");
        if (wrong != 0) {
            System.exit(1);
        }
    }

    private static void constants() {
        promise = "0, constants";
        due("UNKNOWN", PailChain.UNKNOWN, -1);
        due("OUTSIDE", PailChain.OUTSIDE, -2);
        due("STATE", PailChain.STATE, -3);
        due("FULL", PailChain.FULL, -4);
        due("NO", PailChain.NO, -5);
        due("NONE", PailChain.NONE, -6);
        due("GONE", PailChain.GONE, -1000000000000000000L);
    }

    private static void newObject() {
        promise = "1, a new object";
        PailChain x = new PailChain();
        int[] first = {0, 6, 6, 63, 0, 0};
        for (int k = 0; k < first.length; k++) {
            due("told(" + k + ")", x.told(k), first[k]);
        }
        for (int k = 0; k < 6; k++) {
            due("place of " + k, x.told(10 + k), k);
            due("held by " + k, x.told(20 + k), k == 0 ? 6 : 0);
            due("leak of " + k, x.told(30 + k), 0);
            due("want of " + k, x.told(40 + k), 0);
        }
        due("image 0 is not kept", x.restore(0), STATE);
        due("image 1 is not kept", x.restore(1), STATE);
    }

    private static void places() {
        promise = "2, places";
        PailChain x = wheel(5, 0, 3, 2);
        x.deep(8);
        x.pail(2, 1, 3);
        x.pail(1, 0, 4);
        pull(x, "+");
        x.seen(1, 1, true);
        word(x, "+-");
        say(x, "+a");
        due("places(9)", x.places(9), 5);
        due("signs stay", x.told(0), 2);
        due("PLACES", x.told(1), 9);
        due("DEEP stays", x.told(2), 8);
        due("SERVED", x.told(3), 511);
        due("WORDS stay", x.told(4), 1);
        due("SIGHTS go", x.told(5), 0);
        for (int k = 0; k < 9; k++) {
            due("place", x.told(10 + k), k);
            due("held", x.told(20 + k), k == 0 ? 8 : 0);
            due("leak", x.told(30 + k), 0);
            due("want", x.told(40 + k), 0);
        }
        x.door(3, 4);
        due("places(2)", x.places(2), OUTSIDE);
        due("places(10)", x.places(10), OUTSIDE);
        due("places(far)", x.places(FAR), OUTSIDE);
        due("places(down)", x.places(DOWN), OUTSIDE);
        due("refused: the WANT stays", x.told(43), 4);
        due("the same number makes it new too", x.places(9), 9);
        due("the WANT is gone", x.told(43), 0);
        due("places(3)", x.places(3), 9);
        due("SERVED of three", x.told(3), 7);
    }

    private static void pail() {
        promise = "3, pail";
        PailChain x = wheel(3);
        due("holds", x.pail(0, 0, 2), 6);
        due("holds again", x.pail(0, 0, 0), 2);
        due("leaks", x.pail(1, 1, 9), 0);
        due("leaks again", x.pail(1, 1, 0), 9);
        due("up to DEEP", x.pail(2, 0, 6), 0);
        due("over DEEP", x.pail(2, 0, 7), OUTSIDE);
        due("LEAKS over 9", x.pail(2, 1, 10), OUTSIDE);
        due("below 0", x.pail(2, 0, -1), OUTSIDE);
        due("LEAKS below 0", x.pail(2, 1, -1), OUTSIDE);
        due("what 2", x.pail(2, 2, 1), OUTSIDE);
        due("what -1", x.pail(2, -1, 1), OUTSIDE);
        due("no PAIL, all wrong", x.pail(3, 9, 99), UNKNOWN);
        due("no PAIL -1", x.pail(-1, 0, 1), UNKNOWN);
        due("no PAIL far", x.pail(FAR, 0, 1), UNKNOWN);
        pull(x, "+");
        due("PAIL 2 was filled", x.pail(2, 0, 5), 6);
        due("by PAIL, not by PLACE", x.told(22), 5);
        x.pail(2, 1, 3);
        due("LEAK by PAIL", x.told(32), 3);
        due("another one's", x.told(30), 0);
        x.door(0, 3);
        x.pail(2, 0, 6);
        due("filling by hand serves nobody", x.told(3), 6);
    }

    private static void door() {
        promise = "4, door";
        PailChain x = wheel(4);
        due("door(2, 9)", x.door(2, 9), 0);
        due("not SERVED", x.told(3), 11);
        due("door(2, 0)", x.door(2, 0), 9);
        due("SERVED again", x.told(3), 15);
        due("10", x.door(2, 10), OUTSIDE);
        due("-1", x.door(2, -1), OUTSIDE);
        due("no DOOR", x.door(4, 99), UNKNOWN);
        due("no DOOR -1", x.door(-1, 1), UNKNOWN);
        x.door(1, 2);
        pull(x, "+");
        due("was SERVED", x.told(3), 15);
        due("the WANT stays", x.door(1, 2), 2);
        due("it is not SERVED any more", x.told(3), 13);
    }

    private static void deep() {
        promise = "5, deep";
        PailChain x = new PailChain();
        due("deep(9)", x.deep(9), 6);
        due("no PAIL is filled by it", x.told(20), 6);
        due("deep(6)", x.deep(6), 9);
        due("deep(5)", x.deep(5), STATE);
        due("deep(0)", x.deep(0), OUTSIDE);
        due("deep(10)", x.deep(10), OUTSIDE);
        due("deep(-1)", x.deep(-1), OUTSIDE);
        due("stays", x.told(2), 6);
        x.pail(0, 0, 1);
        due("deep(1)", x.deep(1), 6);
        x.deep(4);
        pull(x, "-");
        due("the next one is filled up to it", x.told(21), 4);
    }

    private static void say() {
        promise = "6, say";
        PailChain x = new PailChain();
        due("32", x.say(32), OUTSIDE);
        due("127", x.say(127), OUTSIDE);
        due("-1", x.say(-1), OUTSIDE);
        due("33", x.say(33), 1);
        due("126", x.say(126), 2);
        for (int k = 3; k <= 40; k++) {
            due("sign " + k, x.say('+'), k);
        }
        due("full", x.say('+'), FULL);
        due("OUTSIDE ahead of FULL", x.say(127), OUTSIDE);
        due("signs", x.told(0), 40);
    }

    private static void wipe() {
        promise = "7, wipe";
        PailChain x = new PailChain();
        due("none", x.wipe(), 0);
        say(x, "+z.");
        due("three", x.wipe(), 3);
        due("none left", x.wipe(), 0);
        due("signs", x.told(0), 0);
        due("no fault left", x.fault(), NONE);
    }

    private static void fault() {
        promise = "8, fault";
        PailChain x = new PailChain();
        due("empty", x.fault(), NONE);
        say(x, "+-.");
        due("of three", x.fault(), NONE);
        say(x, ",+/");
        due("the first one", x.fault(), 3);
        x.wipe();
        say(x, "0+");
        due("at 0", x.fault(), 0);
        x.wipe();
        for (int k = 0; k < 39; k++) {
            x.say('.');
        }
        x.say('*');
        due("the last one", x.fault(), 39);
    }

    private static void pull() {
        promise = "9, pull";
        PailChain x = wheel(4, 2, 4, 0, 9);
        x.pail(0, 1, 1);
        due("empty", x.pull(), 0);
        due("+", pull(x, "+"), 3);
        due("the PAD is empty", x.told(0), 0);
        due("PAIL 0 has moved", x.told(10), 1);
        due("PAIL 3 from the last PLACE to THE WELL", x.told(13), 0);
        due("PAIL 0 leaked 1, gave 4", x.told(20), 1);
        due("PAIL 3 gave 2 and is not filled once more", x.told(23), 4);
        due("SERVED", x.told(3), 7);
        due(". fills that at THE WELL", pull(x, "."), 0);
        due("PAIL 3", x.told(23), 6);
        due("PAIL 0 leaked", x.told(20), 0);
        due("and stayed", x.told(10), 1);
        due("-- turns back", pull(x, "--"), 0);
        due("PAIL 0", x.told(10), 3);
        due("PAIL 1", x.told(11), 0);
        due("no less than nothing", pull(x, "......"), 0);
        due("PAIL 0 is empty", x.told(20), 0);
        say(x, "+x");
        due("fault", x.pull(), NO);
        due("the PAD stays", x.told(0), 2);
        due("the wheel stays", x.told(10), 3);
        x.wipe();
        x.door(1, 3);
        due("SERVED by this ROW alone", pull(x, "++"), 2);
        due("told again", pull(x, "++"), 0);
        PailChain y = wheel(9, 1, 1, 1, 1, 1, 1, 1, 1, 1);
        due("40 PULLS", pull(y, "++++++++++++++++++++----------.........."), 511);
        due("twenty ahead, ten back", y.told(10), 1);
    }

    private static void behind() {
        promise = "10, behind";
        PailChain x = wheel(3, 0, 4, 5);
        x.pail(0, 1, 1);
        due("now", x.behind(0, 1), 6);
        say(x, "+");
        due("where", x.behind(0, 0), 1);
        due("PAIL 2", x.behind(2, 0), 0);
        due("holds", x.behind(0, 1), 1);
        due("filled", x.behind(2, 1), 6);
        due("what 2", x.behind(0, 2), OUTSIDE);
        due("what -1", x.behind(0, -1), OUTSIDE);
        due("no PAIL", x.behind(3, 5), UNKNOWN);
        due("no PAIL -1", x.behind(-1, 0), UNKNOWN);
        due("nothing is done", x.told(10), 0);
        due("the PAD stays", x.told(0), 1);
        x.say('!');
        due("fault", x.behind(0, 0), NO);
        due("OUTSIDE ahead of NO", x.behind(0, 2), OUTSIDE);
        due("UNKNOWN ahead of NO", x.behind(7, 0), UNKNOWN);
    }

    private static void after() {
        promise = "11, after";
        PailChain x = wheel(4, 0, 3, 6, 9);
        x.pail(0, 1, 1);
        x.pail(3, 1, 2);
        x.pail(3, 0, 1);
        say(x, "+.+");
        // +: PAIL 3 leaks 1, is filled by 6; PAIL 0 leaks 1, gives 3 of 5; .: PAIL 3 leaks 2 and
        // is filled by 2, PAIL 0 leaks 1; +: PAIL 3 leaks 2, PAIL 0 its last one, PAIL 2 takes 6.
        due("SERVED", x.after(0), 3);
        due("drawn", x.after(1), 14);
        due("leaked", x.after(2), 8);
        due("drunk", x.after(3), 3);
        due("DOOR 0 is so now", x.after(10), 0);
        due("DOOR 1", x.after(11), 1);
        due("DOOR 2", x.after(12), NONE);
        due("no DOOR 4", x.after(14), OUTSIDE);
        due("4", x.after(4), OUTSIDE);
        due("9", x.after(9), OUTSIDE);
        due("-1", x.after(-1), OUTSIDE);
        due("far", x.after(FAR), OUTSIDE);
        due("nothing is done", x.told(3), 1);
        x.say('y');
        due("fault", x.after(0), NO);
        due("fault of a DOOR", x.after(11), NO);
        due("OUTSIDE ahead of NO", x.after(4), OUTSIDE);
        PailChain y = wheel(4, 2);
        due("empty: SERVED", y.after(0), 14);
        due("empty: drawn", y.after(1), 0);
        due("empty: DOOR 0", y.after(10), NONE);
        say(y, ".");
        due(". serves DOOR 0", y.after(10), 1);
        due("nothing was missing", y.after(1), 0);
        due("drunk", y.after(3), 2);
    }

    private static void fewest() {
        promise = "12, fewest";
        PailChain x = wheel(3, 0, 4, 5);
        x.pail(0, 1, 1);
        due("PULLS", x.fewest(-1), 2);
        due("first", x.fewest(0), '+');
        due("second", x.fewest(1), '-');
        due("third", x.fewest(2), NONE);
        due("-2", x.fewest(-2), NONE);
        due("far", x.fewest(FAR), NONE);
        due("down", x.fewest(DOWN), NONE);
        due("nothing is done", x.told(3), 1);
        say(x, "abc");
        due("the PAD does not matter", x.fewest(-1), 2);
        x.door(2, 9);
        due("more than DEEP", x.fewest(-1), NONE);
        due("no first", x.fewest(0), NONE);
        due("of all SERVED", new PailChain().fewest(-1), 0);
        due("of all SERVED, first", new PailChain().fewest(0), NONE);
        PailChain y = wheel(3, 0, 6, 6);
        due("+ ahead of -", y.fewest(0), '+');
        due("of as many", y.fewest(-1), 2);
        PailChain w = wheel(9, 0, 0, 0, 0, 6, 6);
        w.pail(0, 0, 0);
        due("PAIL 0 is empty and must come back", w.fewest(-1), modelOf(w).fewest(-1));
        fourteenAtMost();
        changesAreSeen();
    }

    private static void leaks(PailChain x, int... leaks) {
        for (int k = 0; k < leaks.length; k++) {
            x.pail(k, 1, leaks[k]);
        }
    }

    private static void fourteenAtMost() {
        PailChain x = wheel(9, 0, 4, 0, 6, 3, 0, 4, 0, 6);
        leaks(x, 2, 1, 1, 1, 2, 1, 0, 1, 0);
        due("14 PULLS", x.fewest(-1), 14);
        for (int k = 0; k < 14; k++) {
            x.say(x.fewest(k));
        }
        due("the ROW serves all", x.after(0), 511);
        PailChain y = wheel(9, 0, 6, 6, 6, 4, 0, 1, 6, 6);
        leaks(y, 2, 0, 0, 2, 2, 1, 0, 2, 1);
        due("15 are too many", y.fewest(-1), NONE);
    }

    /** What was found once is not told any more when something has changed. */
    private static void changesAreSeen() {
        PailChain x = wheel(4, 0, 0, 5);
        x.image(0);
        due("at first", x.fewest(-1), 2);
        x.pail(0, 1, 1);
        due("behind pail", x.fewest(-1), 3);
        x.door(2, 7);
        due("behind door", x.fewest(-1), NONE);
        x.deep(9);
        due("behind deep", x.fewest(-1), 3);
        due("the order, too", x.hung(-1), 2);
        x.door(2, 9);
        due("the order behind door", x.hung(0), 1);
        pull(x, "--");
        due("behind pull", x.fewest(-1), 1);
        x.restore(0);
        due("behind restore", x.fewest(-1), 2);
        x.places(4);
        due("behind places", x.fewest(-1), 0);
    }

    private static void soon() {
        promise = "13, soon";
        PailChain x = wheel(6, 0, 2, 0, 6, 0, 6);
        due("SERVED now", x.soon(0), 0);
        due("DOOR 1", x.soon(1), 1);
        due("DOOR 5", x.soon(5), 1);
        due("DOOR 3, as DOORS 1 and 5 drink ahead of it", x.soon(3), 4);
        x.door(1, 0);
        due("DOOR 3", x.soon(3), 3);
        x.pail(0, 1, 1);
        due("DOOR 3 by another PAIL", x.soon(3), 4);
        x.door(3, 7);
        due("more than DEEP", x.soon(3), NONE);
        due("no DOOR 6", x.soon(6), UNKNOWN);
        due("no DOOR -1", x.soon(-1), UNKNOWN);
        PailChain y = wheel(3, 0, 6);
        y.pail(0, 0, 0);
        y.pail(1, 1, 9);
        y.pail(2, 1, 9);
        due("by + and - alone", y.soon(1), 3);
    }

    private static void hung() {
        promise = "14, hung";
        PailChain x = wheel(6, 0, 2, 0, 6, 0, 6);
        x.pail(0, 1, 2);
        x.pail(1, 1, 2);
        x.pail(5, 1, 2);
        due("PULLS", x.hung(-1), 5);
        int[] order = {0, 1, 2, 3, 5, 4};
        for (int k = 0; k < 6; k++) {
            due("PAIL at " + k, x.hung(k), order[k]);
        }
        due("6", x.hung(6), NONE);
        due("-2", x.hung(-2), NONE);
        due("the wheel stays", x.told(14), 4);
        x.door(3, 9);
        due("by no order", x.hung(-1), NONE);
        due("by no order, first", x.hung(0), NONE);
        x.places(7);
        due("seven", x.hung(-1), FULL);
        due("seven, first", x.hung(0), FULL);
        PailChain y = wheel(3, 0, 6, 0);
        y.pail(0, 1, 1);
        due("another one first", y.hung(-1), 1);
        due("PAIL 1", y.hung(0), 1);
        due("PAIL 0", y.hung(1), 0);
        due("PAIL 2", y.hung(2), 2);
        y.pail(1, 0, 6);
        y.pail(2, 0, 6);
        due("what they hold does not matter", y.hung(0), 1);
        pull(y, "+");
        due("DOOR 1 is not SERVED yet", y.told(3), 5);
        due("where they are does not matter", y.hung(0), 1);
        pull(y, "-+++");
        due("SERVED: nothing to do", y.hung(-1), 0);
        due("the first order", y.hung(0), 0);
        PailChain most = wheel(6, 0, 5, 4, 5, 3, 4);
        leaks(most, 1, 0, 1, 0, 0, 0);
        due("8 PULLS", most.hung(-1), 8);
        PailChain over = wheel(6, 5, 6, 4, 4, 6, 3);
        due("9 by FEWEST", over.fewest(-1), 9);
        due("9 are too many", over.hung(-1), NONE);
        PailChain z = wheel(3, 9, 0, 0);
        z.deep(9);
        due("one PULL serves DOOR 0", z.hung(-1), 1);
    }

    private static void race() {
        promise = "15, race";
        PailChain x = wheel(6, 0, 6, 0, 6, 0, 6);
        due("the first one", x.race(1, 5, 1), 0);
        due("who begins", x.race(5, 1, 1), 0);
        due("nobody so soon", x.race(3, 1, 1), 2);
        due("the second one", x.race(3, 1, 4), modelOf(x).race(3, 1, 4));
        PailChain y = wheel(6, 1, 0, 0, 6);
        due("DOOR 0 at the first PULL", y.race(3, 0, 1), 1);
        due("DOOR 0 itself", y.race(0, 3, 10), 0);
        due("both are one", y.race(3, 3, 4), UNKNOWN);
        due("no DOOR", y.race(6, 3, 99), UNKNOWN);
        due("no other DOOR", y.race(3, -1, 4), UNKNOWN);
        due("m 0", y.race(0, 3, 0), OUTSIDE);
        due("m 11", y.race(0, 3, 11), OUTSIDE);
        due("OUTSIDE ahead of STATE", y.race(0, 1, 11), OUTSIDE);
        due("SERVED", y.race(0, 1, 4), STATE);
        due("SERVED first", y.race(1, 0, 4), STATE);
        PailChain z = wheel(4, 0, 3, 0, 3);
        z.pail(2, 0, 3);
        z.pail(0, 0, 0);
        z.pail(1, 1, 9);
        z.pail(3, 1, 9);
        due("with .", z.race(1, 3, 10), modelOf(z).race(1, 3, 10));
        PailChain late = wheel(7, 4, 0, 2, 5, 5, 4, 6);
        due("by 10 PULLS", late.race(3, 2, 10), 1);
        due("not by 9", late.race(3, 2, 9), 2);
        PailChain e = wheel(3, 3, 3);
        e.pail(1, 1, 9);
        due("both at once", e.race(0, 1, 1), modelOf(e).race(0, 1, 1));
        PailChain b = wheel(3, 3, 3, 0);
        b.pail(1, 0, 6);
        b.pail(0, 0, 6);
        b.pail(2, 0, 6);
        due("both by each PULL: neither", b.race(0, 1, 3), 2);
        due("both by each PULL: neither, turned", b.race(1, 0, 3), 2);
    }

    private static void widow() {
        promise = "16, widow";
        PailChain x = wheel(3, 0, 4, 5);
        x.pail(0, 1, 1);
        due("upper", x.widow(2, 1, 2, -1, 0), 1);
        due("lower", x.widow(2, 1, 2, -1, 1), 2);
        due("lowest terms", x.widow(2, 2, 4, -1, 1), 2);
        due("a DOOR", x.widow(1, 1, 3, 2, 0), 2);
        due("a DOOR, lower", x.widow(1, 1, 3, 2, 1), 3);
        due("SERVED now", x.widow(0, 0, 1, 0, 0), 1);
        due("never: upper", x.widow(0, 0, 1, -1, 0), 0);
        due("never: lower", x.widow(0, 3, 10, -1, 1), 1);
        due("p is q", x.widow(1, 10, 10, 1, 0), 1);
        due("p is 0", x.widow(1, 0, 10, 1, 0), 0);
        due("p is 0, lower", x.widow(1, 0, 10, 1, 1), 1);
        PailChain y = wheel(9, 0, 0, 0, 0, 6);
        due("12 of 9 tenths, upper", y.widow(12, 9, 10, 4, 0), modelOf(y).widow(12, 9, 10, 4, 0));
        due("12 of 9 tenths, lower", y.widow(12, 9, 10, 4, 1), modelOf(y).widow(12, 9, 10, 4, 1));
        due("m 13", x.widow(13, 1, 2, -1, 0), GONE + OUTSIDE);
        due("m -1", x.widow(-1, 1, 2, -1, 0), GONE + OUTSIDE);
        due("p over q", x.widow(1, 3, 2, -1, 0), GONE + OUTSIDE);
        due("p -1", x.widow(1, -1, 2, -1, 0), GONE + OUTSIDE);
        due("q 0", x.widow(1, 0, 0, -1, 0), GONE + OUTSIDE);
        due("q 11", x.widow(1, 1, 11, -1, 0), GONE + OUTSIDE);
        due("part 2", x.widow(1, 1, 2, -1, 2), GONE + OUTSIDE);
        due("part -1", x.widow(1, 1, 2, -1, -1), GONE + OUTSIDE);
        due("no DOOR", x.widow(99, 9, 2, 3, 7), GONE + UNKNOWN);
        due("no DOOR -2", x.widow(1, 1, 2, -2, 0), GONE + UNKNOWN);
    }

    private static void word() {
        promise = "17, word";
        PailChain x = new PailChain();
        due("empty", x.word(), NO);
        due("first", word(x, "+"), 1);
        due("the PAD is empty", x.told(0), 0);
        due("the same", word(x, "+"), NO);
        due("the PAD stays", x.told(0), 1);
        due("with .", word(x, "+."), NO);
        due("with a fault", word(x, "+b"), NO);
        due("nine", word(x, "+++++++++"), NO);
        due("eight", word(x, "++++++++"), 2);
        due("an unlike one as long", word(x, "+++++++-"), 3);
        String[] more = {"-", "--", "---", "----", "-----"};
        for (int k = 0; k < more.length; k++) {
            due(more[k], word(x, more[k]), 4 + k);
        }
        due("nine WORDS", word(x, "------"), FULL);
        due("the PAD stays, full", x.told(0), 6);
        due("NO ahead of FULL", word(x, "--"), NO);
        due("WORDS", x.told(4), 8);
        x.places(4);
        due("WORDS stay", x.told(4), 8);
    }

    private static void drop() {
        promise = "18, drop";
        PailChain x = new PailChain();
        due("none", x.drop(), 0);
        word(x, "+");
        word(x, "-");
        due("two", x.drop(), 2);
        due("none left", x.drop(), 0);
        due("WORDS", x.told(4), 0);
        due("it may come again", word(x, "+"), 1);
    }

    private static PailChain ofWords(String... words) {
        PailChain x = new PailChain();
        for (String word : words) {
            word(x, word);
        }
        return x;
    }

    private static void isDoubt(int apart, int doubt, String... words) {
        PailChain x = ofWords(words);
        String of = String.join(" ", words);
        due("APART of " + of, x.apart(0), apart);
        due("SURE of " + of, x.apart(1), doubt == NONE ? 1 : 0);
        due("DOUBT of " + of, x.apart(2), doubt);
    }

    private static void apart() {
        promise = "19, apart";
        isDoubt(1, NONE);
        isDoubt(1, NONE, "+");
        isDoubt(1, NONE, "+", "-+");
        isDoubt(0, 2, "+", "++");
        isDoubt(0, 3, "+", "-+", "+-");
        isDoubt(0, NONE, "+", "+-", "--");
        isDoubt(0, NONE, "+", "+-");
        isDoubt(0, 3, "++-", "-++", "++", "-");
        isDoubt(1, NONE, "++", "+-", "-+", "--");
        isDoubt(0, 11, "+++", "++++++++");
        isDoubt(0, 15, "+++++++", "++++++++");
        isDoubt(0, 4, "+", "+--+", "--+");
        isDoubt(0, 52, "+++", "+++-++++", "++-++-+", "++--+", "+-++-++", "+-+--+-", "-+++++-", "-+-");
        PailChain x = ofWords("+");
        due("3", x.apart(3), OUTSIDE);
        due("-1", x.apart(-1), OUTSIDE);
        due("far", x.apart(FAR), OUTSIDE);
    }

    private static void seen() {
        promise = "20, seen";
        PailChain x = wheel(4, 0, 3);
        due("first", x.seen(0, 3, true), 1);
        due("behind 10", x.seen(10, 3, true), 2);
        due("behind 11", x.seen(11, 3, true), OUTSIDE);
        due("behind -1", x.seen(-1, 3, true), OUTSIDE);
        due("no DOOR", x.seen(99, 4, true), UNKNOWN);
        due("no DOOR -1", x.seen(1, -1, false), UNKNOWN);
        for (int k = 3; k <= 6; k++) {
            due("the same once more", x.seen(10, 3, true), k);
        }
        due("seven", x.seen(1, 1, false), FULL);
        due("OUTSIDE ahead of FULL", x.seen(11, 1, false), OUTSIDE);
        due("UNKNOWN ahead of FULL", x.seen(1, 9, false), UNKNOWN);
        due("SIGHTS", x.told(5), 6);
        pull(x, "+");
        due("SIGHTS stay", x.told(5), 6);
    }

    private static void forget() {
        promise = "21, forget";
        PailChain x = wheel(4, 0, 3);
        due("none", x.forget(), 0);
        x.seen(0, 0, false);
        x.seen(2, 0, false);
        due("does not fit", x.came(1, -1), 0);
        due("two", x.forget(), 2);
        due("none left", x.told(5), 0);
        due("all fit", x.came(1, -1), 3);
    }

    private static void came() {
        promise = "22, came";
        PailChain x = wheel(4, 0, 3, 3, 3);
        due("m 0", x.came(0, -1), 1);
        due("m 0, first sign", x.came(0, 0), NONE);
        due("all of 10", x.came(10, -1), 59049);
        x.seen(1, 1, true);
        due("of 3", x.came(3, -1), 9);
        due("behind more than m", x.came(0, -1), 1);
        x.seen(2, 2, false);
        due("of 3, two SIGHTS", x.came(3, -1), 6);
        due("of 1", x.came(1, -1), 1);
        due("first", x.came(3, 0), '+');
        due("- ahead of .", x.came(3, 1), '-');
        due("third", x.came(3, 2), '+');
        due("i is m", x.came(3, 3), NONE);
        due("i -2", x.came(3, -2), NONE);
        due("i far", x.came(3, FAR), NONE);
        due("m 11", x.came(11, -1), OUTSIDE);
        due("m -1", x.came(-1, -1), OUTSIDE);
        x.seen(0, 1, true);
        due("it is not so now", x.came(3, -1), 0);
        due("no first", x.came(3, 0), NONE);
        x.door(1, 0);
        due("now it is", x.came(3, -1) > 0 ? 1 : 0, 1);
        PailChain late = wheel(9, 0, 0, 0, 0, 6);
        late.pail(0, 0, 0);
        Model all = modelOf(late);
        late.seen(10, 4, true);
        all.seen(10, 4, true);
        due("behind 10", late.came(10, -1), all.came(10, -1));
        due("behind 10, m 9", late.came(9, -1), 19683);
        late.forget();
        late.seen(10, 4, false);
        due("not behind 10", late.came(10, -1), 59049 - all.came(10, -1));
        PailChain y = wheel(3, 0, 3, 0);
        y.seen(2, 1, false);
        due("not SERVED all the while: -. .- ..", y.came(2, -1), 3);
        due("first of it", y.came(2, 0), '-');
        due("second of it", y.came(2, 1), '.');
    }

    private static void could() {
        promise = "23, could";
        PailChain x = wheel(4, 0, 3, 3, 3);
        due("all", x.could(10, 9), 7);
        x.seen(1, 1, false);
        due("no +", x.could(2, 0), 6);
        due("the second one is free", x.could(2, 1), 7);
        x.seen(1, 3, true);
        due("- alone", x.could(2, 0), 2);
        x.seen(2, 3, false);
        due("none of 2", x.could(2, 0), NONE);
        due("of 1", x.could(1, 0), 2);
        due("i is m", x.could(2, 2), OUTSIDE);
        due("i -1", x.could(2, -1), OUTSIDE);
        due("m 0", x.could(0, 0), OUTSIDE);
        due("m 11", x.could(11, 0), OUTSIDE);
        due("m -1", x.could(-1, -2), OUTSIDE);
    }

    private static void day() {
        promise = "24, day";
        PailChain x = wheel(4, 0, 3, 3, 3);
        due("SERVED", x.day(5, 20, 0), 3);
        due("drawn", x.day(5, 20, 1), 27);
        due("of 99", x.day(9999, 99, 0), 36);
        due("the wheel stays", x.told(3), 1);
        due("nothing WANTED", wheel(4).day(9999, 99, 0), 0);
        due("seed 10000", x.day(10000, 1, 0), OUTSIDE);
        due("seed -1", x.day(-1, 1, 0), OUTSIDE);
        due("m 0", x.day(1, 0, 0), OUTSIDE);
        due("m 100", x.day(1, 100, 0), OUTSIDE);
        due("what 2", x.day(1, 1, 2), OUTSIDE);
        due("what -1", x.day(1, 1, -1), OUTSIDE);
        // 75 x and 74 is 224 for 2: left over by 7 it is 0, by 3 it is 2
        PailChain y = wheel(3, 2);
        pull(y, ".");
        due("SERVED DOOR 0 comes anew ahead of the PULL", y.day(2, 1, 0), 1);
        due("that at PLACE 0 is filled by 2 first", y.day(2, 1, 1), 2);
        due("not by 0 (74)", y.day(0, 1, 0), 0);
    }

    private static void image() {
        promise = "25, image";
        PailChain x = wheel(5, 0, 3);
        due("2", x.image(2), OUTSIDE);
        due("-1", x.image(-1), OUTSIDE);
        due("0", x.image(0), 1);
        x.door(1, 4);
        due("1", x.image(1), 1);
        x.restore(0);
        due("of 0", x.told(41), 3);
        x.restore(1);
        due("of 1", x.told(41), 4);
        x.door(1, 5);
        due("0 anew", x.image(0), 1);
        x.door(1, 6);
        x.restore(0);
        due("of 0 anew", x.told(41), 5);
    }

    private static void restore() {
        promise = "26, restore";
        PailChain x = wheel(5, 0, 3, 0, 6);
        x.deep(8);
        x.pail(2, 1, 3);
        x.pail(3, 0, 7);
        pull(x, "+");
        x.seen(2, 3, false);
        word(x, "+");
        word(x, "+-");
        due("not kept", x.restore(1), STATE);
        due("2", x.restore(2), OUTSIDE);
        due("-1", x.restore(-1), OUTSIDE);
        int[] kept = new int[50];
        for (int k = 1; k < 50; k++) {
            kept[k] = x.told(k);
        }
        int fits = x.came(3, -1);
        x.image(0);
        x.places(9);
        x.deep(9);
        x.seen(0, 0, false);
        x.drop();
        word(x, "-");
        x.door(8, 9);
        x.pail(8, 1, 9);
        say(x, "+-!");
        due("kept", x.restore(0), 1);
        for (int k = 1; k < 50; k++) {
            due("told(" + k + ")", x.told(k), kept[k]);
        }
        due("the PAD stays", x.told(0), 3);
        due("SIGHTS are as they were", x.came(3, -1), fits);
        due("WORDS are as they were", x.apart(0), 0);
        x.drop();
        x.door(1, 9);
        due("once more", x.restore(0), 1);
        due("WORDS", x.told(4), 2);
        due("WANT", x.told(41), 3);
        due("the other one is not kept", x.restore(1), STATE);
    }

    private static void told() {
        promise = "27, told";
        PailChain x = wheel(3, 0, 4, 5);
        x.pail(1, 1, 7);
        pull(x, "-");
        say(x, "+q");
        x.seen(1, 1, true);
        word(x, "-");
        say(x, "zz");
        int[] first = {2, 3, 6, 5, 1, 1};
        for (int k = 0; k < first.length; k++) {
            due("told(" + k + ")", x.told(k), first[k]);
        }
        int[] place = {2, 0, 1};
        int[] holds = {1, 6, 0};
        int[] leak = {0, 7, 0};
        int[] want = {0, 4, 5};
        for (int k = 0; k < 3; k++) {
            due("place", x.told(10 + k), place[k]);
            due("holds", x.told(20 + k), holds[k]);
            due("leak", x.told(30 + k), leak[k]);
            due("want", x.told(40 + k), want[k]);
        }
        for (int out : new int[] {-1, 6, 9, 13, 19, 23, 29, 33, 43, 49, 50, 51, 100, FAR, DOWN}) {
            due("told(" + out + ")", x.told(out), OUTSIDE);
        }
        x.places(9);
        due("18 of nine", x.told(18), 8);
        due("19 of nine", x.told(19), OUTSIDE);
        due("48 of nine", x.told(48), 0);
    }
}
