import java.util.List;
import java.util.function.BiConsumer;

/** What was found once is told no more when the wheel or the SIGHTS have changed, by whichever calls. */
public final class AnewTest {
    private static final Check CHECK = new Check("AnewTest");

    /** Each changes something of the wheel below that searches tell; the model does the same. */
    private static final List<BiConsumer<PailChain, Model>> CHANGES = List.of(
        (x, model) -> CHECK.due("places(4)", x.places(4), model.places(4)),
        (x, model) -> CHECK.due("pail(0, 1, 1)", x.pail(0, 1, 1), model.pail(0, 1, 1)),
        (x, model) -> CHECK.due("pail(2, 0, 6)", x.pail(2, 0, 6), model.pail(2, 0, 6)),
        (x, model) -> CHECK.due("door(3, 5)", x.door(3, 5), model.door(3, 5)),
        (x, model) -> CHECK.due("door(1, 0)", x.door(1, 0), model.door(1, 0)),
        (x, model) -> CHECK.due("deep(7)", x.deep(7), model.deep(7)),
        (x, model) -> CHECK.due("pull()", x.pull(), model.pull()),
        (x, model) -> CHECK.due("seen(1, 1, false)", x.seen(1, 1, false), model.seen(1, 1, false)),
        (x, model) -> CHECK.due("seen(2, 2, true)", x.seen(2, 2, true), model.seen(2, 2, true)),
        (x, model) -> CHECK.due("forget()", x.forget(), model.forget()),
        (x, model) -> CHECK.due("restore(0)", x.restore(0), model.restore(0)));

    private AnewTest() {
    }

    public static void main(String[] args) {
        CHECK.of("2", "From the wheel as it is");
        CHECK.of("5", "CAME: ROWS of m signs .. that fit all SIGHTS");
        for (int first = 0; first < CHANGES.size(); first++) {
            for (int second = 0; second < CHANGES.size(); second++) {
                askBetween(first, second);
            }
        }
        askOnceOnly();
        CHECK.end();
    }

    private static PailChain x;
    private static Model model;

    private static void begin() {
        x = new PailChain();
        model = new Model();
        due("places(4)", x.places(4), model.places(4));
        due("door(1, 7)", x.door(1, 7), model.door(1, 7));
        due("image(0)", x.image(0), model.image(0));
        due("door(1, 5)", x.door(1, 5), model.door(1, 5));
        due("door(2, 3)", x.door(2, 3), model.door(2, 3));
        due("seen(2, 1, true)", x.seen(2, 1, true), model.seen(2, 1, true));
        due("say('+')", x.say('+'), model.say('+'));
    }

    private static void due(String call, long got, long want) {
        CHECK.due(call, got, want);
    }

    private static void ask() {
        due("fewest(-1)", x.fewest(-1), model.fewest(-1));
        due("fewest(0)", x.fewest(0), model.fewest(0));
        due("hung(-1)", x.hung(-1), model.hung(-1));
        due("hung(0)", x.hung(0), model.hung(0));
        due("came(3, -1)", x.came(3, -1), model.came(3, -1));
        due("came(3, 1)", x.came(3, 1), model.came(3, 1));
        due("could(3, 0)", x.could(3, 0), model.could(3, 0));
    }

    /** Asked ahead of one change, and again behind two and behind none. */
    private static void askBetween(int first, int second) {
        begin();
        ask();
        CHANGES.get(first).accept(x, model);
        CHANGES.get(second).accept(x, model);
        ask();
        ask();
        CHANGES.get(first).accept(x, model);
        ask();
    }

    /** A new object that is asked for the first time behind none, one, two changes and more. */
    private static void askOnceOnly() {
        for (int changes = 0; changes < 6; changes++) {
            x = new PailChain();
            model = new Model();
            for (int k = 0; k < changes; k++) {
                due("door(" + k + ", 2)", x.door(k, 2), model.door(k, 2));
            }
            due("came(0, -1)", x.came(0, -1), model.came(0, -1));
            ask();
        }
    }
}
