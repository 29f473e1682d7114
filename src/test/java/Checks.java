import java.util.ArrayList;
import java.util.List;

/** Counts checks, prints the ones that fail, and gives the tests short ways to make an object. */
final class Checks {
    interface Call {
        int answer();
    }

    private final String title;
    private int passed;
    private int failed;

    Checks(String title) {
        this.title = title;
    }

    void same(String what, long got, long due) {
        if (got == due) {
            passed++;
        } else {
            miss(what + " answered " + got + ", due is " + due);
        }
    }

    void refused(String what, Class<? extends RuntimeException> due, Call call) {
        try {
            miss(what + " answered " + call.answer() + ", due is " + due.getSimpleName());
        } catch (RuntimeException e) {
            if (e.getClass() == due) {
                passed++;
            } else {
                miss(what + " threw " + e + ", due is " + due.getSimpleName());
            }
        }
    }

    void miss(String line) {
        failed++;
        System.out.println(title + ": " + line);
    }

    void end() {
        System.out.println(title + ": " + passed + " passed, " + failed + " failed");
        if (failed != 0) {
            System.exit(1);
        }
    }

    /** The calls of feed that bring a text on the tape; what is over is filled with blanks. */
    static List<int[]> feeds(String text) {
        List<int[]> all = new ArrayList<>();
        for (int from = 0; from < text.length(); from += 20) {
            int[] five = new int[5];
            for (int i = 0; i < 20; i++) {
                int c = from + i < text.length() ? text.charAt(from + i) : ' ';
                five[i / 4] = five[i / 4] << 8 | c;
            }
            all.add(five);
        }
        return all;
    }

    static void feed(ShadowTolls x, String text) {
        for (int[] five : feeds(text)) {
            x.feed(five[0], five[1], five[2], five[3], five[4]);
        }
    }

    static int bridge(ShadowTolls x, String text) {
        feed(x, text);
        return x.bridge(text.length());
    }

    static int toll(ShadowTolls x, String text) {
        feed(x, text);
        return x.toll(text.length());
    }

    static ShadowTolls made(String bridge, String... tolls) {
        ShadowTolls x = new ShadowTolls();
        for (String text : tolls) {
            toll(x, text);
        }
        bridge(x, bridge);
        return x;
    }
}
