import java.util.ArrayList;
import java.util.List;

/** Counts checks, prints the ones that fail, and gives the tests short ways to make an object. */
final class Checks {
    interface Call {
        int answer();
    }

    interface Edge {
        void check();
    }

    /** What is less is a FAULT less 10. */
    private static final int NO_FAULT = -1;

    private final String title;
    private String about = "";
    private int edges;
    private int passed;
    private int failed;

    Checks(String title) {
        this.title = title;
    }

    /** The checks of one sentence of the document; what it throws is a miss of this sentence alone. */
    void edge(String sentence, Edge edge) {
        int before = passed + failed;
        about = "{" + sentence + "} ";
        try {
            edge.check();
        } catch (RuntimeException e) {
            miss("threw " + e);
        }
        if (passed + failed == before) {
            miss("has no check");
        }
        about = "";
        edges++;
    }

    void same(String what, long got, long due) {
        if (got == due) {
            passed++;
        } else {
            miss(what + " answered " + got + ", due is " + due);
        }
    }

    void refused(String what, Class<? extends RuntimeException> due, Call call) {
        try {
            miss(what + " answered " + call.answer() + ", due is " + due.getSimpleName());
        } catch (RuntimeException e) {
            if (e.getClass() == due) {
                passed++;
            } else {
                miss(what + " threw " + e + ", due is " + due.getSimpleName());
            }
        }
    }

    void miss(String line) {
        failed++;
        System.out.println(title + ": " + about + line);
    }

    void end() {
        String sentences = edges == 0 ? "" : edges + " sentences, ";
        System.out.println(title + ": " + sentences + passed + " passed, " + failed + " failed");
        if (failed != 0) {
            System.exit(1);
        }
    }

    /** The calls of feed that bring a text on the tape; what is over is filled with blanks. */
    static List<int[]> feeds(String text) {
        List<int[]> all = new ArrayList<>();
        for (int from = 0; from < text.length(); from += 20) {
            int[] five = new int[5];
            for (int i = 0; i < 20; i++) {
                int c = from + i < text.length() ? text.charAt(from + i) : ' ';
                five[i / 4] = five[i / 4] << 8 | c;
            }
            all.add(five);
        }
        return all;
    }

    static void feed(ShadowTolls x, String text) {
        for (int[] five : feeds(text)) {
            x.feed(five[0], five[1], five[2], five[3], five[4]);
        }
    }

    static int bridge(ShadowTolls x, String text) {
        feed(x, text);
        return x.bridge(text.length());
    }

    static int toll(ShadowTolls x, String text) {
        feed(x, text);
        return x.toll(text.length());
    }

    /** An object for which these texts are told; a FAULT in one is a mistake of the test. */
    static ShadowTolls made(String bridge, String... tolls) {
        ShadowTolls x = new ShadowTolls();
        for (String text : tolls) {
            if (toll(x, text) < NO_FAULT) {
                throw new AssertionError("a fault at " + x.fault() + " of {" + text + "}");
            }
        }
        if (bridge(x, bridge) < NO_FAULT) {
            throw new AssertionError("a fault at " + x.fault() + " of {" + bridge + "}");
        }
        return x;
    }
}
