import java.util.Random;

/** Many runs by draws, each call asked of the program and of the plain model. */
public final class ModelTest {
    private static final int RUNS = 900;
    private static final int STEPS = 150;
    /** What an object answers beyond these calls is free: nothing is asked of it then. */
    private static final int MOST_CALLS = 512;
    private static final int MOST_CALLS_OF_A_STEP = 21;
    private static final int CALLS_AT_THE_END = 52;
    private static final int WORD_RUNS = 3000;

    private final Random draw;
    private final PailChain x = new PailChain();
    private final Model model = new Model();
    private final StringBuilder trail = new StringBuilder();
    private long asked = 0;
    private boolean isRight = true;

    private ModelTest(long seed) {
        draw = new Random(seed);
    }

    public static void main(String[] args) {
        long asked = 0;
        int wrong = 0;
        for (int run = 0; run < RUNS; run++) {
            ModelTest test = new ModelTest(7919L * run + 17);
            test.go(run);
            asked += test.asked;
            if (test.asked > MOST_CALLS) {
                System.out.println("ModelTest: run " + run + " asked too often: " + test.asked);
                wrong++;
            }
            if (!test.isRight) {
                wrong++;
            }
        }
        for (int run = 0; run < WORD_RUNS; run++) {
            ModelTest test = new ModelTest(104729L * run + 3);
            test.ownWords();
            asked += test.asked;
            if (!test.isRight) {
                wrong++;
            }
        }
        System.out.println("ModelTest: " + asked + " answers compared, " + wrong + " runs wrong");
        if (wrong != 0) {
            System.exit(1);
        }
    }

    /** WORDS mostly of + and up to eight signs: DOUBT lies far out in some of these. */
    private void ownWords() {
        int count = 2 + draw.nextInt(7);
        for (int w = 0; w < count; w++) {
            due("wipe()", x.wipe(), model.wipe());
            int length = 1 + draw.nextInt(8);
            for (int k = 0; k < length; k++) {
                int sign = draw.nextInt(4) == 0 ? '-' : '+';
                due("say(" + sign + ")", x.say(sign), model.say(sign));
            }
            due("word()", x.word(), model.word());
            for (int what = 0; what < 3; what++) {
                due("apart(" + what + ")", x.apart(what), model.apart(what));
            }
        }
    }

    private void go(int run) {
        // Small wheels in most runs: all orders and rows of a large one take the model long.
        model(run % 4 == 0 ? 3 + draw.nextInt(7) : 3 + draw.nextInt(3));
        int last = MOST_CALLS - CALLS_AT_THE_END - MOST_CALLS_OF_A_STEP;
        for (int k = 0; k < STEPS && isRight && asked <= last; k++) {
            step(run);
        }
        for (int what = -1; what < 51 && isRight; what++) {
            due("told(" + what + ")", x.told(what), model.told(what));
        }
    }

    private void model(int n) {
        due("places(" + n + ")", x.places(n), model.places(n));
        int deep = 1 + draw.nextInt(9);
        due("deep(" + deep + ")", x.deep(deep), model.deep(deep));
        int leaky = draw.nextInt(3);
        for (int k = 0; k < n; k++) {
            int leak = leaky == 0 ? 0 : draw.nextInt(leaky == 1 ? 2 : 4);
            due("pail(" + k + ", 1, " + leak + ")", x.pail(k, 1, leak), model.pail(k, 1, leak));
            int want = Math.max(0, draw.nextInt(model.wheel.deep + 3) - 2);
            due("door(" + k + ", " + want + ")", x.door(k, want), model.door(k, want));
        }
    }

    /** From low to high, seldom one beside them or far out. */
    private int near(int low, int high) {
        int d = draw.nextInt(40);
        if (d == 0) {
            return low - 1;
        }
        if (d == 1) {
            return high + 1;
        }
        if (d == 2) {
            return draw.nextInt();
        }
        return low + draw.nextInt(high - low + 1);
    }

    private int number() {
        return near(0, model.wheel.n - 1);
    }

    private void due(String call, long got, long want) {
        asked++;
        trail.append(call).append(" = ").append(want).append('\n');
        if (got != want && isRight) {
            isRight = false;
            System.out.println(trail + "^ answered " + got);
        }
    }

    private void step(int run) {
        switch (draw.nextInt(32)) {
            case 0: if (draw.nextInt(8) == 0) { model(3 + draw.nextInt(run % 4 == 0 ? 7 : 3)); } break;
            case 1: case 2: pail(); break;
            case 3: case 4: door(); break;
            case 5: { int v = near(1, 9); due("deep(" + v + ")", x.deep(v), model.deep(v)); break; }
            case 6: case 7: case 8: case 9: say(); break;
            case 10: if (draw.nextInt(3) == 0) { due("wipe()", x.wipe(), model.wipe()); } break;
            case 11: due("fault()", x.fault(), model.fault()); break;
            case 12: if (draw.nextInt(3) == 0) { due("pull()", x.pull(), model.pull()); } break;
            case 13: { int p = number(), w = near(0, 1); due("behind(" + p + ", " + w + ")", x.behind(p, w), model.behind(p, w)); break; }
            case 14: after(); break;
            case 15: fewest(); break;
            case 16: { int d = number(); due("soon(" + d + ")", x.soon(d), model.soon(d)); break; }
            case 17: hung(); break;
            case 18: case 19: race(); break;
            case 20: case 21: widow(); break;
            case 22: case 23: case 24: words(); break;
            case 25: seen(); break;
            case 26: if (draw.nextInt(4) == 0) { due("forget()", x.forget(), model.forget()); } break;
            case 27: case 28: came(); break;
            case 29: { int s = near(0, 9999), m = near(1, 99), w = near(0, 1); due("day(" + s + ", " + m + ", " + w + ")", x.day(s, m, w), model.day(s, m, w)); break; }
            case 30: { int n = near(0, 1); due("image(" + n + ")", x.image(n), model.image(n)); break; }
            default: if (draw.nextInt(3) == 0) { int n = near(0, 1); due("restore(" + n + ")", x.restore(n), model.restore(n)); }
        }
        int what = near(0, 49);
        due("told(" + what + ")", x.told(what), model.told(what));
    }

    private void pail() {
        int p = number();
        int what = near(0, 1);
        int v = what == 0 ? near(0, model.wheel.deep) : near(0, draw.nextInt(3) == 0 ? 9 : 2);
        due("pail(" + p + ", " + what + ", " + v + ")", x.pail(p, what, v), model.pail(p, what, v));
    }

    private void door() {
        int d = number();
        int v = near(0, 9);
        due("door(" + d + ", " + v + ")", x.door(d, v), model.door(d, v));
    }

    private void say() {
        int times = 1 + draw.nextInt(5);
        for (int k = 0; k < times; k++) {
            int sign = draw.nextInt(30) == 0 ? near(33, 126) : "+-+-+-.".charAt(draw.nextInt(7));
            due("say(" + sign + ")", x.say(sign), model.say(sign));
        }
    }

    private void after() {
        int what = draw.nextBoolean() ? near(0, 3) : near(10, 9 + model.wheel.n);
        due("after(" + what + ")", x.after(what), model.after(what));
    }

    private void fewest() {
        if (model.wheel.n > 6 && draw.nextInt(3) != 0) {
            return;
        }
        int most = model.fewest(-1);
        due("fewest(-1)", x.fewest(-1), most);
        for (int k = 0; k < 2; k++) {
            int i = near(-1, Math.max(0, most));
            due("fewest(" + i + ")", x.fewest(i), model.fewest(i));
        }
    }

    private void hung() {
        if (model.wheel.n == 6 && draw.nextInt(4) != 0) {
            return;
        }
        int i = near(-1, model.wheel.n - 1);
        due("hung(" + i + ")", x.hung(i), model.hung(i));
    }

    private void race() {
        int m = draw.nextInt(60) == 0 ? 10 : near(1, 6);
        int a = number();
        int b = number();
        due("race(" + a + ", " + b + ", " + m + ")", x.race(a, b, m), model.race(a, b, m));
    }

    private void widow() {
        int m = draw.nextInt(20) == 0 ? near(0, 12) : near(0, 7);
        int q = near(1, 10);
        int p = near(0, Math.max(0, Math.min(q, 10)));
        int d = near(-1, model.wheel.n - 1);
        int part = near(0, 1);
        due("widow(" + m + ", " + p + ", " + q + ", " + d + ", " + part + ")", x.widow(m, p, q, d, part), model.widow(m, p, q, d, part));
    }

    private void words() {
        if (draw.nextInt(8) == 0) {
            due("drop()", x.drop(), model.drop());
        }
        if (draw.nextBoolean()) {
            due("wipe()", x.wipe(), model.wipe());
            int length = 1 + draw.nextInt(draw.nextInt(6) == 0 ? 9 : 5);
            for (int k = 0; k < length; k++) {
                int sign = draw.nextInt(40) == 0 ? '.' : draw.nextBoolean() ? '+' : '-';
                due("say(" + sign + ")", x.say(sign), model.say(sign));
            }
        }
        due("word()", x.word(), model.word());
        int what = near(0, 2);
        due("apart(" + what + ")", x.apart(what), model.apart(what));
    }

    private void seen() {
        int behind = draw.nextInt(4) == 0 ? near(0, 10) : near(1, 5);
        int d = number();
        boolean served = draw.nextBoolean();
        due("seen(" + behind + ", " + d + ", " + served + ")", x.seen(behind, d, served), model.seen(behind, d, served));
    }

    private void came() {
        int m = draw.nextInt(20) == 0 ? near(0, 10) : near(0, 6);
        due("came(" + m + ", -1)", x.came(m, -1), model.came(m, -1));
        int i = near(0, Math.max(1, Math.min(m, 10)));
        due("came(" + m + ", " + i + ")", x.came(m, i), model.came(m, i));
        due("could(" + m + ", " + i + ")", x.could(m, i), model.could(m, i));
    }
}
