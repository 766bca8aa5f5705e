/** Section 4 of the document, and promises 16 to 19: chances, and WORDS. */
public final class ChanceEdgeTest {
    private static final Check CHECK = new Check("ChanceEdgeTest");
    private static final int UNKNOWN = Check.UNKNOWN, OUTSIDE = Check.OUTSIDE, FULL = Check.FULL;
    private static final int NO = Check.NO, NONE = Check.NONE;
    private static final int FAR = Check.FAR, DOWN = Check.DOWN;

    private ChanceEdgeTest() {
    }

    public static void main(String[] args) {
        noPulls();
        twelvePulls();
        pulls();
        chances();
        parts();
        doors();
        allDoors();
        wordSigns();
        wordLengths();
        wordOnce();
        eightWords();
        wordPad();
        dropped();
        noWords();
        areApart();
        areSure();
        doubts();
        goneWordsDoNotCount();
        apartWhat();
        CHECK.end();
    }

    private static void due(String call, long got, long want) {
        CHECK.due(call, got, want);
    }

    private static void fraction(PailChain x, int m, int p, int q, int door, long upper, long lower) {
        String call = "widow(" + m + ", " + p + ", " + q + ", " + door + ", ";
        due(call + "0)", x.widow(m, p, q, door, 0), upper);
        due(call + "1)", x.widow(m, p, q, door, 1), lower);
    }

    /** DOOR 8 is SERVED by the first - of a ROW, if that comes within 12 PULLS; by + alone it is not yet. */
    private static PailChain servedByFirstMinus() {
        return Check.wheel(9, 0, 6, 6, 6, 6, 6, 0, 0, 6);
    }

    private static void noPulls() {
        CHECK.of("4", "THE WIDOW: m PULLS (0 to 12)");
        PailChain x = servedByFirstMinus();
        fraction(x, 0, 1, 2, 8, 0, 1);
        fraction(x, 0, 1, 2, 0, 1, 1);
        fraction(x, 0, 1, 2, -1, 0, 1);
        fraction(new PailChain(), 0, 1, 2, -1, 1, 1);
        fraction(new PailChain(), 12, 1, 3, -1, 1, 1);
    }

    private static void twelvePulls() {
        CHECK.of("4", "THE WIDOW: m PULLS (0 to 12)");
        PailChain x = servedByFirstMinus();
        fraction(x, 12, 9, 10, 8, 1000000000000L - 282429536481L, 1000000000000L);
        fraction(x, 12, 1, 10, 8, 999999999999L, 1000000000000L);
        fraction(x, 12, 1, 2, 8, 4095, 4096);
        fraction(x, 11, 1, 2, 8, 2047, 2048);
        fraction(x, 12, 8, 9, 8, 282429536481L - 68719476736L, 282429536481L);
        fraction(x, 12, 10, 10, 8, 0, 1);
        fraction(x, 12, 0, 10, 8, 1, 1);
        PailChain late = Check.oneTight(0, 8, 0, 5, 5, 3, 4, 6, 0, 4);
        due("SOON", late.soon(4), 12);
        due("nobody yet behind 11", late.widow(11, 1, 2, 4, 0), 0);
        due("behind 12", late.widow(12, 1, 2, 4, 0) > 0 ? 1 : 0, 1);
        due("behind 12, as the model tries all", late.widow(12, 1, 2, 4, 0), Check.modelOf(late).widow(12, 1, 2, 4, 0));
    }

    private static void pulls() {
        CHECK.of("Promise 16", "OUTSIDE: m");
        PailChain x = servedByFirstMinus();
        long q = 1;
        for (int m = 0; m <= 12; m++) {
            fraction(x, m, 1, 3, 8, q - 1, q);
            q *= 3;
        }
        for (int m : new int[] {DOWN, -12, -1, 13, 14, FAR}) {
            fraction(x, m, 1, 3, 8, Check.GONE + OUTSIDE, Check.GONE + OUTSIDE);
        }
    }

    private static void chances() {
        CHECK.of("4", "each + with a chance of p by q (0 to q, 1 to 10), else -");
        CHECK.of("Promise 16", "OUTSIDE: .. p, q");
        PailChain x = Check.oneTight(0, 3, 0, 6);
        for (int q = -2; q <= 12; q++) {
            for (int p = -2; p <= 12; p++) {
                boolean isTold = q >= 1 && q <= 10 && p >= 0 && p <= q;
                long upper = x.widow(1, p, q, 1, 0);
                long lower = x.widow(1, p, q, 1, 1);
                if (isTold) {
                    due("widow(1, " + p + ", " + q + ", 1): p by q", upper * q, lower * p);
                    due("the lower number is above 0", lower > 0 ? 1 : 0, 1);
                } else {
                    due("widow(1, " + p + ", " + q + ", 1, 0)", upper, Check.GONE + OUTSIDE);
                    due("widow(1, " + p + ", " + q + ", 1, 1)", lower, Check.GONE + OUTSIDE);
                }
            }
            if (q == 5) {
                x = Check.oneTight(0, 3, 0, 6);
            }
        }
        for (int out : new int[] {DOWN, FAR}) {
            due("p " + out, x.widow(1, out, 10, 1, 0), Check.GONE + OUTSIDE);
            due("q " + out, x.widow(1, 1, out, 1, 0), Check.GONE + OUTSIDE);
            due("p and q " + out, x.widow(1, out, out, 1, 0), Check.GONE + OUTSIDE);
        }
        due("q 0, no PULL", x.widow(0, 0, 0, 1, 0), Check.GONE + OUTSIDE);
        due("q 11, no PULL", x.widow(0, 1, 11, 1, 0), Check.GONE + OUTSIDE);
    }

    private static void parts() {
        CHECK.of("Promise 16", "OUTSIDE: .. part.");
        PailChain x = servedByFirstMinus();
        due("part 0", x.widow(1, 1, 3, 8, 0), 2);
        due("part 1", x.widow(1, 1, 3, 8, 1), 3);
        for (int part : new int[] {DOWN, -1, 2, 3, FAR}) {
            due("part " + part, x.widow(1, 1, 3, 8, part), Check.GONE + OUTSIDE);
        }
    }

    private static void doors() {
        CHECK.of("Promise 16", "that all are SERVED (door = -1), that a DOOR is. UNKNOWN");
        for (int n = 3; n <= 9; n++) {
            PailChain x = Check.wheel(n);
            fraction(x, 1, 1, 2, n - 1, 1, 1);
            fraction(x, 1, 1, 2, -1, 1, 1);
            for (int door : new int[] {DOWN, -2, n, n + 1, FAR}) {
                fraction(x, 1, 1, 2, door, Check.GONE + UNKNOWN, Check.GONE + UNKNOWN);
            }
        }
    }

    private static void allDoors() {
        CHECK.of("4", "the chance that all DOORS are SERVED then; that a DOOR is.");
        // DOOR 1 by +, DOOR 2 by -, of PAILS that do not leak: both behind +- and -+.
        PailChain x = Check.wheel(3, 0, 6, 6);
        fraction(x, 1, 1, 3, -1, 0, 1);
        fraction(x, 1, 1, 3, 1, 1, 3);
        fraction(x, 1, 1, 3, 2, 2, 3);
        fraction(x, 2, 1, 3, -1, 4, 9);
        fraction(x, 2, 1, 3, 0, 1, 1);
        Check.pull(x, "+");
        fraction(x, 0, 1, 3, 1, 1, 1);
        fraction(x, 0, 1, 3, -1, 0, 1);
        fraction(x, 1, 1, 3, -1, 2, 3);
    }

    private static void wordSigns() {
        CHECK.of("4", "WORDS .. ROWS of .. signs + and -");
        CHECK.of("Promise 17", "NO: no WORD");
        PailChain x = new PailChain();
        int count = 0;
        for (int sign = 33; sign <= 126; sign++) {
            x.wipe();
            x.say(sign);
            boolean isWord = sign == '+' || sign == '-';
            count += isWord ? 1 : 0;
            due("the sign " + sign, x.word(), isWord ? count : NO);
            due("the PAD", x.told(0), isWord ? 0 : 1);
        }
        for (String row : new String[] {".", "+.", ".+", "-.-", "++++++++.", "+-a", "a"}) {
            due("the ROW " + row, Check.word(x, row), NO);
        }
        due("WORDS", x.told(4), 2);
    }

    private static void wordLengths() {
        CHECK.of("4", "ROWS of 1 to 8 signs");
        PailChain x = new PailChain();
        due("of no sign", x.word(), NO);
        String row = "";
        for (int k = 1; k <= 8; k++) {
            row += "+";
            due("of " + k, Check.word(x, row), k);
        }
        x.drop();
        due("of nine", Check.word(x, row + "+"), NO);
        due("of nine, ending with -", Check.word(x, row + "-"), NO);
        due("of 40", Check.word(x, "+-+-+-+-+-+-+-+-+-+-+-+-+-+-+-+-+-+-+-+-"), NO);
        due("WORDS", x.told(4), 0);
        due("of eight", Check.word(x, "--------"), 1);
    }

    private static void wordOnce() {
        CHECK.of("4", "no two the same");
        CHECK.of("Promise 17", "NO: .. there is such already");
        PailChain x = new PailChain();
        due("first", Check.word(x, "+-+-+-+-"), 1);
        due("the same", Check.word(x, "+-+-+-+-"), NO);
        due("another last sign", Check.word(x, "+-+-+-++"), 2);
        due("another first sign", Check.word(x, "--+-+-+-"), 3);
        due("a shorter one", Check.word(x, "+-+-+-+"), 4);
        due("the second, the same", Check.word(x, "+-+-+-++"), NO);
        due("the last, the same", Check.word(x, "+-+-+-+"), NO);
        x.drop();
        due("when it is gone it may come again", Check.word(x, "+-+-+-+-"), 1);
        due("not those that are gone with it", Check.word(x, "+-+-+-++"), 2);
    }

    private static final String[] EIGHT = {"+", "-", "++", "+-", "-+", "--", "+++", "--------"};

    private static void eightWords() {
        CHECK.of("4", "WORDS, 8 at most");
        CHECK.of("Promise 17", "FULL.");
        PailChain x = new PailChain();
        for (int k = 0; k < 8; k++) {
            due(EIGHT[k], Check.word(x, EIGHT[k]), k + 1);
        }
        due("a ninth", Check.word(x, "---"), FULL);
        due("it stays on the PAD", x.told(0), 3);
        due("WORDS", x.told(4), 8);
        for (int k = 0; k < 8; k++) {
            due(EIGHT[k] + " once more", Check.word(x, EIGHT[k]), NO);
        }
        due("drop()", x.drop(), 8);
        due("then it is the first", Check.word(x, "---"), 1);
    }

    private static void wordPad() {
        CHECK.of("Promise 17", "The ROW on the PAD is a WORD more (the PAD is empty then): how many.");
        PailChain x = Check.wheel(4, 2, 2);
        due("first", Check.word(x, "+-"), 1);
        due("the PAD is empty", x.told(0), 0);
        due("so there is none on it", x.word(), NO);
        due("nothing is PULLED by it", x.told(3), 12);
        due("a sign", x.say('+'), 1);
        due("second", x.word(), 2);
    }

    private static void dropped() {
        CHECK.of("Promise 18", "WORDS go: how many there were.");
        PailChain x = new PailChain();
        due("of none", x.drop(), 0);
        Check.word(x, "+");
        Check.word(x, "++");
        Check.say(x, "-");
        due("of two", x.drop(), 2);
        due("of none again", x.drop(), 0);
        due("the PAD stays", x.told(0), 1);
        due("APART without them", x.apart(0), 1);
        due("DOUBT without them", x.apart(2), NONE);
    }

    private static PailChain of(String... words) {
        PailChain x = new PailChain();
        for (String word : words) {
            Check.word(x, word);
        }
        return x;
    }

    private static void noWords() {
        CHECK.of("Promise 19", "0 whether WORDS are APART (1, 0), 1 SURE (1, 0), 2 DOUBT (NONE: they are SURE).");
        PailChain none = new PailChain();
        due("none: APART", none.apart(0), 1);
        due("none: SURE", none.apart(1), 1);
        due("none: DOUBT", none.apart(2), NONE);
        for (String word : new String[] {"+", "-", "++++++++", "+-+-+-+-"}) {
            PailChain one = of(word);
            due(word + ": APART", one.apart(0), 1);
            due(word + ": SURE", one.apart(1), 1);
            due(word + ": DOUBT", one.apart(2), NONE);
        }
    }

    private static void areApart() {
        CHECK.of("4", "APART: none begins with another one.");
        due("one sign of two", of("+", "+-").apart(0), 0);
        due("told the other way round", of("+-", "+").apart(0), 0);
        due("seven of eight", of("+-+-+-+", "+-+-+-+-").apart(0), 0);
        due("the last of eight is another", of("+-+-+-++", "+-+-+-+-").apart(0), 1);
        due("the end of another one is none", of("-", "+-").apart(0), 1);
        due("the last two of eight", of("+---", "++--", "+-+-", "+++-", "+--+", "++-+", "-++-", "-++").apart(0), 0);
        due("eight of three", of("+++", "++-", "+-+", "+--", "-++", "-+-", "--+", "---").apart(0), 1);
    }

    private static void areSure() {
        CHECK.of("4", "SURE: no two unlike rows of WORDS, one behind another, are the same signs.");
        due("APART", of("+", "-+").apart(1), 1);
        due("not APART, yet SURE", of("+", "+-").apart(1), 1);
        due("not APART, yet SURE, of three", of("+", "+-", "--").apart(1), 1);
        due("one WORD twice is another", of("+", "++").apart(1), 0);
        due("three rows", of("+", "+-", "-+").apart(1), 0);
        due("eight of three", of("+++", "++-", "+-+", "+--", "-++", "-+-", "--+", "---").apart(1), 1);
        due("all that end alike", of("-", "+-", "++-", "+++-", "++++-", "+++++-", "++++++-", "+++++++-").apart(1), 1);
        due("all that begin alike", of("-", "-+", "-++", "-+++", "-++++", "-+++++", "-++++++", "-+++++++").apart(1), 1);
    }

    private static void doubts() {
        CHECK.of("4", "If it is not SURE: DOUBT: the fewest signs that two unlike rows of WORDS can both be.");
        due("two", of("+", "++").apart(2), 2);
        due("three", of("+", "+-", "-+").apart(2), 3);
        due("the fewest of several", of("+++", "++", "+").apart(2), 2);
        due("not the first that is found", of("+", "++++++++", "-", "+-").apart(2), 2);
        due("eight", of("++++++++", "+").apart(2), 8);
        due("fifteen", of("+++++++", "++++++++").apart(2), 15);
        due("far out", of("+++", "+++-++++", "++-++-+", "++--+", "+-++-++", "+-+--+-", "-+++++-", "-+-").apart(2), 52);
        due("SURE", of("+", "+-", "--").apart(2), NONE);
        PailChain x = of("+", "-");
        due("SURE so far", x.apart(2), NONE);
        Check.word(x, "+-");
        due("not with a third", x.apart(2), 2);
        due("asked again", x.apart(2), 2);
        due("not SURE", x.apart(1), 0);
        due("asked once more", x.apart(2), 2);
    }

    private static void goneWordsDoNotCount() {
        CHECK.of("Promise 18", "WORDS go");
        PailChain x = of("-", "+", "++");
        due("not APART", x.apart(0), 0);
        x.drop();
        Check.word(x, "-");
        Check.word(x, "+");
        due("APART when the third is gone", x.apart(0), 1);
        due("SURE", x.apart(1), 1);
        due("no DOUBT", x.apart(2), NONE);
        PailChain y = of("+", "+-", "-");
        due("three in DOUBT", y.apart(2), 2);
        y.drop();
        Check.word(y, "+");
        Check.word(y, "+-");
        due("two are SURE", y.apart(2), NONE);
        due("but not APART", y.apart(0), 0);
        PailChain z = of("+", "-");
        z.image(0);
        Check.word(z, "++");
        due("DOUBT", z.apart(2), 2);
        z.restore(0);
        due("no DOUBT behind restore", z.apart(2), NONE);
        due("APART behind restore", z.apart(0), 1);
        PailChain eight = of(EIGHT);
        eight.drop();
        due("none: APART", eight.apart(0), 1);
        due("none: DOUBT", eight.apart(2), NONE);
    }

    private static void apartWhat() {
        CHECK.of("Promise 19", "OUTSIDE.");
        PailChain x = of("+", "++");
        for (int what : new int[] {DOWN, -2, -1, 3, 4, 10, FAR}) {
            due("apart(" + what + ")", x.apart(what), OUTSIDE);
        }
        due("apart(0)", x.apart(0), 0);
        due("apart(2)", x.apart(2), 2);
    }
}
