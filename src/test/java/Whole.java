/** All that calls tell of an object, as one text: what a refused call must leave as it was. */
final class Whole {
    private static final String[] LIKELY_WORDS = {"+", "-", "+-", "-+", "++", "--+", "+-+-+-+-", "-----", "++++"};

    private final PailChain x;
    private final StringBuilder told = new StringBuilder();

    private Whole(PailChain x) {
        this.x = x;
    }

    /** Some 300 calls, by which the object is used up: it is changed at the end. */
    static String of(PailChain x) {
        Whole whole = new Whole(x);
        whole.wheel();
        whole.rows();
        whole.searches();
        whole.sights();
        whole.words();
        whole.images();
        return whole.told.toString();
    }

    private void tell(String call, long answer) {
        told.append(call).append(" answers ").append(answer).append('\n');
    }

    private void wheel() {
        for (int what = 0; what < 6; what++) {
            tell("told(" + what + ")", x.told(what));
        }
        int n = x.told(1);
        for (int what = 10; what < 50; what++) {
            if (what % 10 < n) {
                tell("told(" + what + ")", x.told(what));
            }
        }
    }

    private void rows() {
        tell("fault()", x.fault());
        int n = x.told(1);
        for (int k = 0; k < n; k++) {
            tell("behind(" + k + ", 0)", x.behind(k, 0));
            tell("behind(" + k + ", 1)", x.behind(k, 1));
            tell("after(" + (10 + k) + ")", x.after(10 + k));
        }
        for (int what = 0; what < 4; what++) {
            tell("after(" + what + ")", x.after(what));
        }
    }

    private void searches() {
        for (int i = -1; i < 9; i++) {
            tell("fewest(" + i + ")", x.fewest(i));
        }
        for (int i = -1; i < 6; i++) {
            tell("hung(" + i + ")", x.hung(i));
        }
        int n = x.told(1);
        for (int k = 0; k < n; k++) {
            tell("soon(" + k + ")", x.soon(k));
        }
        tell("race(1, 2, 5)", x.race(1, 2, 5));
        tell("widow(6, 1, 3, -1, 0)", x.widow(6, 1, 3, -1, 0));
        tell("day(7, 50, 0)", x.day(7, 50, 0));
        tell("day(7, 50, 1)", x.day(7, 50, 1));
    }

    private void sights() {
        for (int m = 0; m <= 10; m++) {
            tell("came(" + m + ", -1)", x.came(m, -1));
        }
        for (int i = 0; i < 6; i++) {
            tell("came(6, " + i + ")", x.came(6, i));
            tell("could(6, " + i + ")", x.could(6, i));
        }
    }

    private void words() {
        for (int what = 0; what < 3; what++) {
            tell("apart(" + what + ")", x.apart(what));
        }
        tell("the PAD as a WORD", x.word());
        for (String word : LIKELY_WORDS) {
            tell("the WORD " + word, Check.word(x, word));
        }
    }

    private void images() {
        for (int n = 0; n < 2; n++) {
            tell("restore(" + n + ")", x.restore(n));
            wheel();
            tell("came(5, -1)", x.came(5, -1));
            tell("apart(2)", x.apart(2));
        }
    }
}
