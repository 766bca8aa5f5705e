import java.util.Set;
import java.util.TreeSet;

/** Counts the answers of a test, and tells those that are not as due with the sentence they break. */
final class Check {
    static final int UNKNOWN = -1, OUTSIDE = -2, STATE = -3, FULL = -4, NO = -5, NONE = -6;
    static final long GONE = -1000000000000000000L;
    static final int FAR = Integer.MAX_VALUE, DOWN = Integer.MIN_VALUE;

    private final String test;
    private final Set<String> sentences = new TreeSet<>();
    private String sentence = "";
    private int checked = 0;
    private int checkedAhead = 0;
    private int wrong = 0;

    Check(String test) {
        this.test = test;
    }

    /** What is asked from here on tests this sentence of the document, or several that are told in a row. */
    void of(String place, String words) {
        String told = place + ": \"" + words + "\"";
        sentence = checked == checkedAhead && !sentence.isEmpty() ? sentence + ", " + told : told;
        checkedAhead = checked;
        sentences.add(told);
    }

    void due(String call, long got, long want) {
        checked++;
        if (got != want) {
            wrong++;
            System.out.println(test + ": " + sentence + ": " + call + " answered " + got + ", due is " + want);
        }
    }

    void same(String call, String got, String want) {
        checked++;
        if (got.equals(want)) {
            return;
        }
        wrong++;
        String[] is = got.split("\n");
        String[] was = want.split("\n");
        for (int k = 0; k < Math.min(is.length, was.length); k++) {
            if (!is[k].equals(was[k])) {
                System.out.println(test + ": " + sentence + ": behind " + call + " " + is[k] + ", due is " + was[k]);
                return;
            }
        }
        System.out.println(test + ": " + sentence + ": behind " + call + " more or less is told");
    }

    void end() {
        System.out.println(test + ": " + sentences.size() + " sentences, " + checked + " answers checked, " + wrong + " wrong");
        if (wrong != 0) {
            System.exit(1);
        }
    }

    /** A new wheel of n PLACES with DOORS that WANT so much. */
    static PailChain wheel(int n, int... wants) {
        PailChain x = new PailChain();
        x.places(n);
        for (int k = 0; k < wants.length; k++) {
            x.door(k, wants[k]);
        }
        return x;
    }

    /** The same, but all PAILS LEAK 9 save one: no other one brings anything to a DOOR but DOOR 0. */
    static PailChain oneTight(int tight, int n, int... wants) {
        PailChain x = wheel(n, wants);
        for (int k = 0; k < n; k++) {
            x.pail(k, 1, k == tight ? 0 : 9);
        }
        return x;
    }

    static void say(PailChain x, String row) {
        for (int k = 0; k < row.length(); k++) {
            x.say(row.charAt(k));
        }
    }

    static int pull(PailChain x, String row) {
        x.wipe();
        say(x, row);
        return x.pull();
    }

    static int word(PailChain x, String row) {
        x.wipe();
        say(x, row);
        return x.word();
    }

    /** The plain model, which tries all, with the same wheel, no PAIL of which has moved. */
    static Model modelOf(PailChain x) {
        Model model = new Model();
        model.places(x.told(1));
        model.deep(x.told(2));
        for (int k = 0; k < x.told(1); k++) {
            model.pail(k, 0, x.told(20 + k));
            model.pail(k, 1, x.told(30 + k));
            model.door(k, x.told(40 + k));
        }
        return model;
    }
}
