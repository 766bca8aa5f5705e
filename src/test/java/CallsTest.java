import java.util.ArrayList;
import java.util.List;

/** 'What it is': all that is promised holds up to an object's 512th call, whatever was asked ahead of it. */
public final class CallsTest {
    private static final Check CHECK = new Check("CallsTest");
    private static final int LAST_CALL = 512;

    private interface Call {
        long on(PailChain x);
    }

    /** A busy wheel: turned, with WORDS, SIGHTS, a ROW; IMAGE 1 is as it is at the end. */
    private static final List<Call> BEGIN = List.of(
        x -> x.image(0), x -> x.places(5), x -> x.deep(7),
        x -> x.door(0, 7), x -> x.door(1, 3), x -> x.door(2, 6), x -> x.door(4, 5),
        x -> x.pail(3, 0, 4), x -> x.pail(1, 1, 2), x -> x.pail(4, 1, 1),
        x -> x.say('-'), x -> x.pull(),
        x -> x.seen(2, 1, true), x -> x.seen(10, 2, false),
        x -> x.say('+'), x -> x.word(), x -> x.say('+'), x -> x.say('+'), x -> x.word(),
        x -> x.say('+'), x -> x.say('-'), x -> x.image(1));

    /** Done as a whole these leave all as it was: the dearest calls, refused ones, changes that are taken back. */
    private static final List<Call> BETWEEN = List.of(
        x -> x.fewest(-1), x -> x.soon(2), x -> x.hung(-1), x -> x.race(1, 2, 10),
        x -> x.widow(12, 3, 10, -1, 0), x -> x.came(10, -1), x -> x.could(10, 9), x -> x.day(9999, 99, 0),
        x -> x.apart(2), x -> x.after(1), x -> x.behind(4, 1), x -> x.told(3), x -> x.fault(),
        x -> x.places(2), x -> x.pail(5, 0, 0), x -> x.door(0, 10), x -> x.deep(10), x -> x.say(32), x -> x.image(2),
        x -> x.places(9), x -> x.door(8, 9), x -> x.pail(8, 1, 9), x -> x.deep(9), x -> x.seen(0, 8, true),
        x -> x.came(9, -1), x -> x.drop(), x -> x.word(), x -> x.say('.'), x -> x.pull(), x -> x.restore(1),
        x -> x.say('+'), x -> x.say('x'), x -> x.wipe(), x -> x.say('+'), x -> x.say('-'));

    /** Every call of the face; those that change something come with those that do not. */
    private static final List<Call> LAST = List.of(
        x -> x.places(9), x -> x.places(2), x -> x.pail(3, 0, 1), x -> x.pail(1, 1, 0), x -> x.pail(5, 0, 0),
        x -> x.door(2, 1), x -> x.deep(8), x -> x.deep(1), x -> x.say('.'), x -> x.wipe(), x -> x.fault(),
        x -> x.pull(), x -> x.behind(0, 0), x -> x.behind(0, 1), x -> x.after(0), x -> x.after(1), x -> x.after(2),
        x -> x.after(3), x -> x.after(11), x -> x.fewest(-1), x -> x.fewest(0), x -> x.soon(2), x -> x.hung(-1),
        x -> x.hung(0), x -> x.race(1, 2, 10), x -> x.widow(12, 3, 10, 1, 0), x -> x.widow(12, 3, 10, -1, 1),
        x -> x.word(), x -> x.drop(), x -> x.apart(0), x -> x.apart(1), x -> x.apart(2), x -> x.seen(3, 2, true),
        x -> x.forget(), x -> x.came(10, -1), x -> x.came(4, 1), x -> x.could(10, 0), x -> x.day(9999, 99, 0),
        x -> x.day(5, 50, 1), x -> x.image(0), x -> x.restore(0), x -> x.restore(1), x -> x.told(0), x -> x.told(3),
        x -> x.told(12), x -> x.told(23), x -> x.told(31), x -> x.told(44));

    private CallsTest() {
    }

    public static void main(String[] args) {
        CHECK.of("What it is", "An object is used for at most 512 calls after it has been made");
        for (int k = 0; k < LAST.size(); k++) {
            long want = LAST.get(k).on(done(BEGIN));
            CHECK.due("call " + k + " of LAST as the 512th", LAST.get(k).on(usedUp()), want);
        }
        theSameTwice();
        CHECK.end();
    }

    private static PailChain done(List<Call> calls) {
        PailChain x = new PailChain();
        for (Call call : calls) {
            call.on(x);
        }
        return x;
    }

    /** An object behind its 511th call, as it is behind BEGIN. */
    private static PailChain usedUp() {
        List<Call> calls = new ArrayList<>(BEGIN);
        while (calls.size() + BETWEEN.size() < LAST_CALL) {
            calls.addAll(BETWEEN);
        }
        while (calls.size() < LAST_CALL - 1) {
            calls.add(x -> x.told(1));
        }
        return done(calls);
    }

    /** Two objects that are asked by turns know nothing of each other: each answers as one alone does. */
    private static void theSameTwice() {
        List<Call> calls = new ArrayList<>(BEGIN);
        while (calls.size() + BETWEEN.size() <= LAST_CALL) {
            calls.addAll(BETWEEN);
        }
        List<Long> alone = new ArrayList<>();
        PailChain one = new PailChain();
        for (Call call : calls) {
            alone.add(call.on(one));
        }
        PailChain ahead = new PailChain();
        PailChain behind = new PailChain();
        for (int k = 0; k < calls.size() + 7; k++) {
            if (k < calls.size()) {
                CHECK.due("call " + k + ", ahead of another object", calls.get(k).on(ahead), alone.get(k));
            }
            if (k >= 7) {
                CHECK.due("call " + (k - 7) + ", behind another object", calls.get(k - 7).on(behind), alone.get(k - 7));
            }
        }
    }
}
