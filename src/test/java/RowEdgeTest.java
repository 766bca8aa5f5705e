/** Section 2 of the document, and promises 10 and 11: what a ROW would do. */
public final class RowEdgeTest {
    private static final Check CHECK = new Check("RowEdgeTest");
    private static final int UNKNOWN = Check.UNKNOWN, OUTSIDE = Check.OUTSIDE, NO = Check.NO, NONE = Check.NONE;
    private static final int FAR = Check.FAR, DOWN = Check.DOWN;

    private RowEdgeTest() {
    }

    public static void main(String[] args) {
        emptyRow();
        asTheWheelIs();
        servedNow();
        pullsTill();
        bits();
        water();
        behindRefused();
        afterRefused();
        behindAFault();
        nothingIsDone();
        CHECK.end();
    }

    private static void due(String call, long got, long want) {
        CHECK.due(call, got, want);
    }

    private static void emptyRow() {
        CHECK.of("2", "behind the ROW on the PAD: where a PAIL is, what it HOLDS; SERVED DOORS, as bits");
        PailChain x = Check.wheel(4, 1, 0, 9);
        x.pail(0, 0, 2);
        x.pail(3, 0, 5);
        x.pail(3, 1, 9);
        int[] holds = {2, 0, 0, 5};
        for (int k = 0; k < 4; k++) {
            due("PAIL " + k + " is where it was", x.behind(k, 0), k);
            due("PAIL " + k + " HOLDS what it did", x.behind(k, 1), holds[k]);
        }
        due("SERVED", x.after(0), 10);
        due("drawn", x.after(1), 0);
        due("LEAKED", x.after(2), 0);
        due("drunk", x.after(3), 0);
        due("DOOR 0 is not SERVED by an empty ROW", x.after(10), NONE);
        due("DOOR 1 is so now", x.after(11), 0);
        due("DOOR 2", x.after(12), NONE);
        due("DOOR 3 is so now", x.after(13), 0);
    }

    private static void asTheWheelIs() {
        CHECK.of("2", "From the wheel as it is");
        PailChain x = Check.wheel(5, 0, 2, 3);
        x.pail(0, 1, 1);
        Check.pull(x, "+");
        due("empty: PAIL 0", x.behind(0, 0), 1);
        due("empty: it HOLDS", x.behind(0, 1), 3);
        due("empty: PAIL 4", x.behind(4, 0), 0);
        due("what was drawn ahead does not count", x.after(1), 0);
        due("what was drunk ahead does not count", x.after(3), 0);
        x.say('+');
        due("PAIL 0 goes on", x.behind(0, 0), 2);
        due("it HOLDS", x.behind(0, 1), 2);
        due("LEAKED", x.after(2), 1);
        due("drawn: PAIL 3", x.after(1), 6);
        x.wipe();
        x.say('-');
        due("PAIL 0 back", x.behind(0, 0), 0);
        due("drawn: PAIL 0", x.after(1), 4);
    }

    private static void servedNow() {
        CHECK.of("2", "behind how many PULLS a DOOR was SERVED (0: it is so now)");
        PailChain x = Check.wheel(3, 4, 4);
        Check.say(x, ".+");
        due("DOOR 0 by the first", x.after(10), 1);
        due("DOOR 1 by the second", x.after(11), NONE);
        due("DOOR 2 WANTS nothing", x.after(12), 0);
        x.wipe();
        Check.pull(x, ".");
        Check.say(x, ".+");
        due("DOOR 0 is SERVED now", x.after(10), 0);
        due("DOOR 1 by the second", x.after(11), 2);
        x.door(0, 4);
        due("its WANT came anew", x.after(10), 1);
        x.door(0, 0);
        due("it WANTS nothing", x.after(10), 0);
    }

    private static void pullsTill() {
        CHECK.of("Promise 11", "PULLS till DOOR k was SERVED (10 and k; NONE: it is not)");
        PailChain x = Check.wheel(9, 0, 0, 0, 0, 0, 0, 0, 6, 6);
        String row = "........................................";
        Check.say(x, row.substring(0, 39) + "-");
        due("DOOR 8 by the 40th", x.after(18), 40);
        due("DOOR 7", x.after(17), NONE);
        x.wipe();
        Check.say(x, row);
        due("DOOR 8 by none of 40", x.after(18), NONE);
        x.wipe();
        Check.say(x, "-+-.");
        due("the first time", x.after(18), 1);
        x.wipe();
        Check.say(x, "-+--");
        due("DOOR 7 behind four", x.after(17), 4);
        CHECK.of("Promise 11", "OUTSIDE");
        for (int n = 3; n <= 9; n++) {
            PailChain y = Check.wheel(n);
            for (int k = 0; k < n; k++) {
                due("after(" + (10 + k) + ") of " + n, y.after(10 + k), 0);
            }
            for (int k = n; k < 12; k++) {
                due("after(" + (10 + k) + ") of " + n, y.after(10 + k), OUTSIDE);
            }
        }
    }

    private static void bits() {
        CHECK.of("Promise 11", "SERVED DOORS, as bits (what = 0)");
        for (int n = 3; n <= 9; n++) {
            for (int k = 0; k < n; k++) {
                PailChain x = Check.wheel(n);
                x.door(k, 5);
                due("all but DOOR " + k + " of " + n, x.after(0), (1 << n) - 1 - (1 << k));
                x.pail(k, 0, 6);
                x.say('.');
                due("all", x.after(0), (1 << n) - 1);
            }
        }
    }

    private static void water() {
        CHECK.of("2", "WATER that was drawn from THE WELL in it (what PAILS were filled up by), that was LEAKED, drunk.");
        PailChain x = Check.wheel(3, 0, 9, 9);
        x.deep(9);
        x.pail(1, 1, 9);
        x.pail(2, 1, 9);
        // PAIL 0 is filled up to 9 by 3; + brings it to DOOR 1, which drinks 9; PAIL 2 is filled by 9.
        x.say('.');
        due("drawn: just what was missing", x.after(1), 3);
        due("drunk", x.after(3), 0);
        x.say('+');
        due("drawn", x.after(1), 12);
        due("LEAKED", x.after(2), 0);
        due("drunk", x.after(3), 9);
        x.say('.');
        due("drawn: PAIL 2 leaks all at THE WELL", x.after(1), 21);
        due("LEAKED: what it held, 9", x.after(2), 9);
        x.say('.');
        due("LEAKED twice", x.after(2), 18);
        due("drunk once", x.after(3), 9);
        PailChain full = Check.wheel(3);
        full.say('.');
        due("nothing is missing", full.after(1), 0);
        PailChain most = Check.wheel(9);
        most.deep(9);
        for (int k = 0; k < 9; k++) {
            most.pail(k, 0, 9);
            most.pail(k, 1, 9);
        }
        for (int k = 0; k < 40; k++) {
            most.say('+');
        }
        due("drawn in 40 PULLS", most.after(1), 360);
        due("LEAKED in 40 PULLS", most.after(2), 81 + 39 * 9);
    }

    private static void behindRefused() {
        CHECK.of("Promise 10", "where a PAIL is (what = 0), what it HOLDS (1). UNKNOWN; OUTSIDE; NO: there is a FAULT.");
        PailChain x = Check.wheel(4);
        x.say('+');
        due("behind(3, 0)", x.behind(3, 0), 0);
        due("behind(3, 1)", x.behind(3, 1), 6);
        for (int what : new int[] {DOWN, -1, 2, 3, 10, FAR}) {
            due("behind(0, " + what + ")", x.behind(0, what), OUTSIDE);
            due("behind(4, " + what + ")", x.behind(4, what), UNKNOWN);
        }
        due("behind(-1, 0)", x.behind(-1, 0), UNKNOWN);
        due("behind(4, 0)", x.behind(4, 0), UNKNOWN);
    }

    private static void afterRefused() {
        CHECK.of("Promise 11", "SERVED DOORS, as bits (what = 0), drawn (1), LEAKED (2), drunk (3), .. OUTSIDE");
        PailChain x = Check.wheel(4);
        x.say('+');
        due("after(3)", x.after(3), 0);
        due("after(10)", x.after(10), 0);
        for (int what : new int[] {DOWN, -10, -1, 4, 5, 8, 9, 14, 15, 19, 20, 99, FAR}) {
            due("after(" + what + ")", x.after(what), OUTSIDE);
        }
    }

    private static void behindAFault() {
        CHECK.of("Promise 11", "NO: there is a FAULT.");
        for (String row : new String[] {"a", "+a", "a+", "+-.!"}) {
            PailChain x = Check.wheel(4, 2);
            Check.say(x, row);
            for (int what : new int[] {0, 1, 2, 3, 10, 11, 13}) {
                due("after(" + what + ") of " + row, x.after(what), NO);
            }
            due("behind(0, 0) of " + row, x.behind(0, 0), NO);
            due("behind(3, 1) of " + row, x.behind(3, 1), NO);
        }
    }

    private static void nothingIsDone() {
        CHECK.of("Promise 10", "Behind the ROW on the PAD");
        PailChain x = Check.wheel(4, 2, 2);
        x.pail(0, 1, 1);
        Check.say(x, "+.-");
        for (int twice = 0; twice < 2; twice++) {
            due("PAIL 0 back at THE WELL", x.behind(0, 0), 0);
            due("DOORS 0 and 1 SERVED", x.after(0), 15);
            due("the PAD stays", x.told(0), 3);
            due("the wheel stays", x.told(20), 6);
            due("nobody is SERVED yet", x.told(3), 12);
        }
        due("then it is done", x.pull(), 3);
    }
}
