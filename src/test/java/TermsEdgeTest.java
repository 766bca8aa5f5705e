/** The document's Terms: which refusal comes first, that it changes nothing, how fractions are refused. */
public final class TermsEdgeTest {
    private static final Check CHECK = new Check("TermsEdgeTest");
    private static final int UNKNOWN = Check.UNKNOWN, OUTSIDE = Check.OUTSIDE, STATE = Check.STATE;
    private static final int FULL = Check.FULL, NO = Check.NO, NONE = Check.NONE;
    private static final int FAR = Check.FAR, DOWN = Check.DOWN;

    private interface Maker {
        PailChain make();
    }

    private interface Call {
        long on(PailChain x);
    }

    private TermsEdgeTest() {
    }

    public static void main(String[] args) {
        constants();
        unknownAheadOfOutside();
        unknownAheadOfTheRest();
        outsideAheadOfTheRest();
        noAheadOfFull();
        refusedWheel();
        refusedRows();
        refusedSearches();
        refusedChancesAndWords();
        refusedSightsAndDays();
        fractions();
        refusedFractions();
        CHECK.end();
    }

    private static void due(String call, long got, long want) {
        CHECK.due(call, got, want);
    }

    private static void constants() {
        CHECK.of("The constants", "What refused calls answer; NONE: there is none.");
        due("UNKNOWN", PailChain.UNKNOWN, -1);
        due("OUTSIDE", PailChain.OUTSIDE, -2);
        due("STATE", PailChain.STATE, -3);
        due("FULL", PailChain.FULL, -4);
        due("NO", PailChain.NO, -5);
        due("NONE", PailChain.NONE, -6);
        CHECK.of("The constants", "What is told of fractions that are refused: GONE and the refusal.");
        due("GONE", PailChain.GONE, -1000000000000000000L);
    }

    /** Five PLACES, turned; a bit of everything: WORDS, SIGHTS, an IMAGE of another wheel, a ROW. */
    private static PailChain busy() {
        PailChain x = Check.wheel(4, 2, 1);
        x.deep(9);
        x.pail(2, 1, 1);
        x.seen(2, 1, false);
        Check.word(x, "-");
        Check.word(x, "--");
        x.image(0);
        x.drop();
        x.deep(7);
        x.places(5);
        x.door(0, 7);
        x.door(1, 3);
        x.door(2, 6);
        x.door(4, 5);
        x.pail(3, 0, 4);
        x.pail(1, 1, 2);
        x.pail(4, 1, 1);
        Check.pull(x, "-");
        x.seen(2, 1, true);
        x.seen(3, 2, false);
        Check.word(x, "+");
        Check.word(x, "+-");
        x.fewest(-1);
        x.hung(-1);
        x.came(4, -1);
        Check.say(x, "+-.+");
        return x;
    }

    private static PailChain faulty() {
        PailChain x = busy();
        x.say('x');
        return x;
    }

    private static PailChain padIsFull() {
        PailChain x = busy();
        for (int k = 4; k < 40; k++) {
            x.say(k % 3 == 0 ? '-' : '+');
        }
        return x;
    }

    /** Eight WORDS, and a ninth on the PAD. */
    private static PailChain wordsAreFull() {
        PailChain x = busy();
        for (String word : new String[] {"-", "-+", "++", "--+", "+-+-+-+-", "-----"}) {
            Check.word(x, word);
        }
        Check.say(x, "++++");
        return x;
    }

    private static PailChain sightsAreFull() {
        PailChain x = busy();
        for (int k = 0; k < 4; k++) {
            x.seen(4 + k, 2, k > 1);
        }
        return x;
    }

    private static PailChain ninePlaces() {
        PailChain x = busy();
        x.places(9);
        x.door(1, 5);
        x.door(2, 4);
        x.pail(8, 1, 3);
        x.seen(1, 1, true);
        return x;
    }

    /** On the PAD is a WORD that there is already. */
    private static PailChain wordOnceMore() {
        PailChain x = busy();
        x.wipe();
        Check.say(x, "+-");
        return x;
    }

    private static void refused(String call, Maker state, Call asked, long want) {
        PailChain x = state.make();
        due(call, asked.on(x), want);
        CHECK.same(call, Whole.of(x), Whole.of(state.make()));
    }

    private static void unknownAheadOfOutside() {
        CHECK.of("Terms", "the first of these that fits: UNKNOWN -1 (there is no such PAIL, DOOR, WORD), OUTSIDE -2");
        PailChain x = busy();
        due("pail(5, 2, 0)", x.pail(5, 2, 0), UNKNOWN);
        due("pail(5, 0, 8)", x.pail(5, 0, 8), UNKNOWN);
        due("pail(-1, 1, 10)", x.pail(-1, 1, 10), UNKNOWN);
        due("pail(FAR, FAR, FAR)", x.pail(FAR, FAR, FAR), UNKNOWN);
        due("door(5, 10)", x.door(5, 10), UNKNOWN);
        due("door(-1, -1)", x.door(-1, -1), UNKNOWN);
        due("behind(5, 2)", x.behind(5, 2), UNKNOWN);
        due("behind(-1, -1)", x.behind(-1, -1), UNKNOWN);
        due("race(5, 1, 0)", x.race(5, 1, 0), UNKNOWN);
        due("race(1, 5, 11)", x.race(1, 5, 11), UNKNOWN);
        due("race(1, 1, 11)", x.race(1, 1, 11), UNKNOWN);
        due("widow(13, 1, 2, 5, 0)", x.widow(13, 1, 2, 5, 0), Check.GONE + UNKNOWN);
        due("widow(1, 3, 2, -2, 0)", x.widow(1, 3, 2, -2, 0), Check.GONE + UNKNOWN);
        due("widow(1, 0, 0, 5, 0)", x.widow(1, 0, 0, 5, 0), Check.GONE + UNKNOWN);
        due("widow(1, 1, 2, 5, 2)", x.widow(1, 1, 2, 5, 2), Check.GONE + UNKNOWN);
        due("seen(11, 5, true)", x.seen(11, 5, true), UNKNOWN);
        due("seen(-1, -1, true)", x.seen(-1, -1, true), UNKNOWN);
    }

    private static void unknownAheadOfTheRest() {
        CHECK.of("Terms", "the first of these that fits: UNKNOWN -1 (..), .. STATE -3 (as told), NO -5 (as told), FULL -4");
        due("behind(5, 0) of a FAULT", faulty().behind(5, 0), UNKNOWN);
        due("behind(5, 2) of a FAULT", faulty().behind(5, 2), UNKNOWN);
        due("race(3, 3, 1), DOOR 3 is SERVED", busy().race(3, 3, 1), UNKNOWN);
        due("race(3, 5, 1), DOOR 3 is SERVED", busy().race(3, 5, 1), UNKNOWN);
        due("race(-1, 3, 1), DOOR 3 is SERVED", busy().race(-1, 3, 1), UNKNOWN);
        due("seen(1, 5, true) of six", sightsAreFull().seen(1, 5, true), UNKNOWN);
    }

    private static void outsideAheadOfTheRest() {
        CHECK.of("Terms", "the first of these that fits: .. OUTSIDE -2 (another number is not as told), STATE -3 (as told), NO -5 (as told), FULL -4");
        due("deep(0), PAILS HOLD more", busy().deep(0), OUTSIDE);
        due("deep(-1), PAILS HOLD more", busy().deep(-1), OUTSIDE);
        due("say(32) of 40", padIsFull().say(32), OUTSIDE);
        due("say(127) of 40", padIsFull().say(127), OUTSIDE);
        due("behind(0, 2) of a FAULT", faulty().behind(0, 2), OUTSIDE);
        due("behind(0, -1) of a FAULT", faulty().behind(0, -1), OUTSIDE);
        due("after(4) of a FAULT", faulty().after(4), OUTSIDE);
        due("after(15) of a FAULT", faulty().after(15), OUTSIDE);
        due("race(1, 3, 0), DOOR 3 is SERVED", busy().race(1, 3, 0), OUTSIDE);
        due("race(3, 1, 11), DOOR 3 is SERVED", busy().race(3, 1, 11), OUTSIDE);
        due("seen(11, 1, true) of six", sightsAreFull().seen(11, 1, true), OUTSIDE);
        due("seen(-1, 1, true) of six", sightsAreFull().seen(-1, 1, true), OUTSIDE);
        due("restore(2), which was not kept", busy().restore(2), OUTSIDE);
        due("restore(-1), which was not kept", busy().restore(-1), OUTSIDE);
        PailChain none = busy();
        none.seen(0, 1, true);
        due("no ROW of one fits", none.could(1, 0), NONE);
        due("could(1, 1), no ROW fits", none.could(1, 1), OUTSIDE);
        due("could(11, 0), no ROW fits", none.could(11, 0), OUTSIDE);
        due("came(11, 0), no ROW fits", none.came(11, 0), OUTSIDE);
    }

    private static void noAheadOfFull() {
        CHECK.of("Terms", "the first of these that fits: .. NO -5 (as told), FULL -4");
        PailChain x = wordsAreFull();
        due("a ninth WORD", x.word(), FULL);
        due("one that is there, of eight", Check.word(x, "+-"), NO);
        due("one with . of eight", Check.word(x, "+."), NO);
        due("one of nine signs, of eight", Check.word(x, "+++++++++"), NO);
        x.wipe();
        due("an empty PAD, of eight", x.word(), NO);
    }

    private static void nothing() {
        CHECK.of("Terms", "They change nothing.");
    }

    private static void refusedWheel() {
        nothing();
        refused("places(2)", TermsEdgeTest::busy, x -> x.places(2), OUTSIDE);
        refused("places(10)", TermsEdgeTest::busy, x -> x.places(10), OUTSIDE);
        refused("pail(5, 0, 1)", TermsEdgeTest::busy, x -> x.pail(5, 0, 1), UNKNOWN);
        refused("pail(-1, 1, 1)", TermsEdgeTest::busy, x -> x.pail(-1, 1, 1), UNKNOWN);
        refused("pail(1, 0, 8)", TermsEdgeTest::busy, x -> x.pail(1, 0, 8), OUTSIDE);
        refused("pail(1, 0, -1)", TermsEdgeTest::busy, x -> x.pail(1, 0, -1), OUTSIDE);
        refused("pail(1, 1, 10)", TermsEdgeTest::busy, x -> x.pail(1, 1, 10), OUTSIDE);
        refused("pail(1, 1, -1)", TermsEdgeTest::busy, x -> x.pail(1, 1, -1), OUTSIDE);
        refused("pail(1, 2, 3)", TermsEdgeTest::busy, x -> x.pail(1, 2, 3), OUTSIDE);
        refused("pail(1, -1, 3)", TermsEdgeTest::busy, x -> x.pail(1, -1, 3), OUTSIDE);
        refused("door(5, 1)", TermsEdgeTest::busy, x -> x.door(5, 1), UNKNOWN);
        refused("door(-1, 1)", TermsEdgeTest::busy, x -> x.door(-1, 1), UNKNOWN);
        refused("door(3, 10)", TermsEdgeTest::busy, x -> x.door(3, 10), OUTSIDE);
        refused("door(1, -1)", TermsEdgeTest::busy, x -> x.door(1, -1), OUTSIDE);
        refused("deep(0)", TermsEdgeTest::busy, x -> x.deep(0), OUTSIDE);
        refused("deep(10)", TermsEdgeTest::busy, x -> x.deep(10), OUTSIDE);
        refused("deep(3)", TermsEdgeTest::busy, x -> x.deep(3), STATE);
    }

    private static void refusedRows() {
        nothing();
        refused("say(32)", TermsEdgeTest::busy, x -> x.say(32), OUTSIDE);
        refused("say(127)", TermsEdgeTest::busy, x -> x.say(127), OUTSIDE);
        refused("say('+') of 40", TermsEdgeTest::padIsFull, x -> x.say('+'), FULL);
        refused("say('a') of 40", TermsEdgeTest::padIsFull, x -> x.say('a'), FULL);
        refused("pull() of a FAULT", TermsEdgeTest::faulty, x -> x.pull(), NO);
        refused("behind(5, 0)", TermsEdgeTest::busy, x -> x.behind(5, 0), UNKNOWN);
        refused("behind(0, 2)", TermsEdgeTest::busy, x -> x.behind(0, 2), OUTSIDE);
        refused("behind(0, 0) of a FAULT", TermsEdgeTest::faulty, x -> x.behind(0, 0), NO);
        refused("after(15)", TermsEdgeTest::busy, x -> x.after(15), OUTSIDE);
        refused("after(0) of a FAULT", TermsEdgeTest::faulty, x -> x.after(0), NO);
    }

    private static void refusedSearches() {
        nothing();
        refused("soon(5)", TermsEdgeTest::busy, x -> x.soon(5), UNKNOWN);
        refused("hung(-1) of nine PLACES", TermsEdgeTest::ninePlaces, x -> x.hung(-1), FULL);
        refused("hung(0) of nine PLACES", TermsEdgeTest::ninePlaces, x -> x.hung(0), FULL);
        refused("race(1, 1, 3)", TermsEdgeTest::busy, x -> x.race(1, 1, 3), UNKNOWN);
        refused("race(1, 2, 11)", TermsEdgeTest::busy, x -> x.race(1, 2, 11), OUTSIDE);
        refused("race(1, 3, 3)", TermsEdgeTest::busy, x -> x.race(1, 3, 3), STATE);
    }

    private static void refusedChancesAndWords() {
        nothing();
        refused("widow(1, 1, 2, 5, 0)", TermsEdgeTest::busy, x -> x.widow(1, 1, 2, 5, 0), Check.GONE + UNKNOWN);
        refused("widow(13, 1, 2, 1, 0)", TermsEdgeTest::busy, x -> x.widow(13, 1, 2, 1, 0), Check.GONE + OUTSIDE);
        refused("word() with .", TermsEdgeTest::busy, x -> x.word(), NO);
        refused("word() of a FAULT", TermsEdgeTest::faulty, x -> x.word(), NO);
        refused("word() that is there", TermsEdgeTest::wordOnceMore, x -> x.word(), NO);
        refused("word() of 40 signs", TermsEdgeTest::padIsFull, x -> x.word(), NO);
        refused("word() of eight", TermsEdgeTest::wordsAreFull, x -> x.word(), FULL);
        refused("apart(3)", TermsEdgeTest::busy, x -> x.apart(3), OUTSIDE);
        refused("apart(-1)", TermsEdgeTest::busy, x -> x.apart(-1), OUTSIDE);
    }

    private static void refusedSightsAndDays() {
        nothing();
        refused("seen(1, 5, true)", TermsEdgeTest::busy, x -> x.seen(1, 5, true), UNKNOWN);
        refused("seen(11, 1, true)", TermsEdgeTest::busy, x -> x.seen(11, 1, true), OUTSIDE);
        refused("seen(-1, 1, true)", TermsEdgeTest::busy, x -> x.seen(-1, 1, true), OUTSIDE);
        refused("seen(0, 1, true) of six", TermsEdgeTest::sightsAreFull, x -> x.seen(0, 1, true), FULL);
        refused("came(11, -1)", TermsEdgeTest::busy, x -> x.came(11, -1), OUTSIDE);
        refused("could(6, 6)", TermsEdgeTest::busy, x -> x.could(6, 6), OUTSIDE);
        refused("could(11, 0)", TermsEdgeTest::busy, x -> x.could(11, 0), OUTSIDE);
        refused("day(10000, 5, 0)", TermsEdgeTest::busy, x -> x.day(10000, 5, 0), OUTSIDE);
        refused("day(5, 100, 0)", TermsEdgeTest::busy, x -> x.day(5, 100, 0), OUTSIDE);
        refused("image(2)", TermsEdgeTest::busy, x -> x.image(2), OUTSIDE);
        refused("image(-1)", TermsEdgeTest::busy, x -> x.image(-1), OUTSIDE);
        refused("restore(2)", TermsEdgeTest::busy, x -> x.restore(2), OUTSIDE);
        refused("restore(-1)", TermsEdgeTest::busy, x -> x.restore(-1), OUTSIDE);
        refused("restore(1)", TermsEdgeTest::busy, x -> x.restore(1), STATE);
        refused("told(6)", TermsEdgeTest::busy, x -> x.told(6), OUTSIDE);
        refused("told(15)", TermsEdgeTest::busy, x -> x.told(15), OUTSIDE);
    }

    private static void fraction(PailChain x, int m, int p, int q, int door, long upper, long lower) {
        String call = "widow(" + m + ", " + p + ", " + q + ", " + door + ", ";
        due(call + "0)", x.widow(m, p, q, door, 0), upper);
        due(call + "1)", x.widow(m, p, q, door, 1), lower);
    }

    private static void fractions() {
        CHECK.of("Terms", "Fractions are told in lowest terms by part: 0 the upper, 1 the lower number");
        // DOOR 2 is SERVED by the first -, and by no PULL else: PAIL 0 alone is tight.
        PailChain x = Check.oneTight(0, 3, 0, 0, 6);
        fraction(x, 1, 1, 2, 2, 1, 2);
        fraction(x, 1, 5, 10, 2, 1, 2);
        fraction(x, 1, 2, 10, 2, 4, 5);
        fraction(x, 1, 4, 6, 2, 1, 3);
        fraction(x, 1, 3, 10, 2, 7, 10);
        fraction(x, 1, 7, 7, 2, 0, 1);
        fraction(x, 1, 0, 7, 2, 1, 1);
        fraction(x, 0, 3, 9, 2, 0, 1);
        fraction(x, 0, 3, 9, 0, 1, 1);
    }

    private static void refusedFractions() {
        CHECK.of("Terms", "refused with GONE and the refusal");
        PailChain x = busy();
        due("no DOOR 5", x.widow(1, 1, 2, 5, 0), -1000000000000000001L);
        due("no DOOR 5, lower", x.widow(1, 1, 2, 5, 1), -1000000000000000001L);
        due("no DOOR -2", x.widow(1, 1, 2, -2, 0), -1000000000000000001L);
        due("no DOOR far down", x.widow(1, 1, 2, DOWN, 0), -1000000000000000001L);
        due("m 13", x.widow(13, 1, 2, 1, 0), -1000000000000000002L);
        due("m 13, lower", x.widow(13, 1, 2, 1, 1), -1000000000000000002L);
        due("part 2", x.widow(1, 1, 2, 1, 2), -1000000000000000002L);
    }
}
