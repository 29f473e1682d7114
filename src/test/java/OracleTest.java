import java.util.Arrays;
import java.util.Random;

/** Random texts and calls, answered by ShadowTolls and by the plain Oracle; the seeds are fixed. */
public final class OracleTest {
    private static final Checks CHECKS = new Checks("OracleTest");
    private static final String[] NAMES = {"bridge", "toll", "fault", "told", "traveller", "day", "altitude", "shadow", "law",
        "coins", "best", "week", "plan", "slot", "slots", "most", "cross", "undo", "taken", "write", "stolen", "much", "lines",
        "war", "ledger", "forget", "fits", "sky", "season", "span", "image", "restore", "count"};
    private static final int[] ARGS = {1, 1, 0, 1, 2, 2, 3, 4, 2, 5, 4, 2, 4, 4, 0, 1, 4, 0, 1, 2, 1, 0, 3, 3, 2, 0, 3, 1, 3, 5, 0, 0, 1};

    private final Random random;
    private final ShadowTolls x = new ShadowTolls();
    private final Oracle oracle = new Oracle();
    private String history = "";
    private boolean right = true;

    private OracleTest(long seed) {
        random = new Random(seed);
    }

    public static void main(String[] args) {
        int runs = args.length > 0 ? Integer.parseInt(args[0]) : 400;
        for (int i = 0; i < runs; i++) {
            new OracleTest(i).run();
        }
        for (int i = 0; i < (runs + 19) / 20; i++) {
            new OracleTest(-1 - i).runLarge();
        }
        CHECKS.end();
    }

    private void run() {
        int texts = 1 + random.nextInt(5);
        for (int i = 0; i < texts; i++) {
            tell("toll", spoil(law()));
        }
        tell("bridge", spoil(road()));
        for (int i = 0; i < 150 && right; i++) {
            int n = random.nextInt(NAMES.length);
            if (random.nextInt(60) == 0) {
                tell("toll", spoil(law()));
            } else if (random.nextInt(90) == 0) {
                tell("bridge", spoil(road()));
            } else if (NAMES[n].equals("bridge") || NAMES[n].equals("toll")) {
                if (random.nextInt(10) == 0) {
                    both(NAMES[n], pick(-1, 600));
                }
            } else if (dear(NAMES[n])) {
                if (random.nextInt(4) == 0) {
                    both(NAMES[n], arguments(NAMES[n], ARGS[n]));
                }
            } else {
                both(NAMES[n], arguments(NAMES[n], ARGS[n]));
            }
        }
    }

    /** Up to eight travellers and sixty slots. */
    private void runLarge() {
        tell("toll", "pay shadow/" + pick(1, 9) + ";pay weight/" + pick(1, 99) + " if hour>" + pick(8, 16) + ";");
        tell("toll", law());
        StringBuilder s = new StringBuilder("keeper " + pick(300, 700) + " " + pick(800, 1439) + ";takes " + pick(10, 60) + ";cloud 6;");
        int people = pick(5, 8);
        for (int k = 0; k < people; k++) {
            int from = pick(300, 900);
            s.append("traveller ").append(pick(50, 400)).append(' ').append(pick(1, 999)).append(' ').append(from).append(' ')
                .append(pick(from, Math.min(1439, from + 600))).append(' ').append(pick(0, 3)).append(';');
        }
        s.append("lies ").append(pick(0, 4)).append(" 40;hat ").append(pick(0, 4)).append(" 99;");
        s.append(random.nextBoolean() ? "shade;" : "").append(random.nextBoolean() ? "second 30 5;" : "");
        tell("bridge", s.toString());
        for (int i = 0; i < 12 && right; i++) {
            for (String name : new String[] {"plan", "plan", "slot", "most"}) {
                both(name, arguments(name, 0));
            }
            int both = oracle.call("told", 8);
            int everybody = (1 << oracle.call("told", 0)) - 1;
            both("plan", everybody, i, both, i % 5);
            both("slot", everybody, i, both, i % people);
        }
        both("season", 3, 3, random.nextInt());
        both("span", 20, 2, random.nextInt(), 2, random.nextInt(2));
        both("law", 0, 1);
        both("war", 4, pick(1, 5), 0);
        both("war", 4, pick(1, 5), 1);
    }

    private static boolean dear(String name) {
        return name.equals("lines") || name.equals("war") || name.equals("span") || name.equals("fits") || name.equals("much");
    }

    private void tell(String how, String text) {
        for (int[] five : Checks.feeds(text)) {
            both("feed", five);
        }
        history += " {" + text + "}";
        both(how, text.length());
        both("fault");
    }

    private void both(String name, int... a) {
        String due = answer(() -> oracle.call(name, a));
        String got = answer(() -> call(name, a));
        String call = name + Arrays.toString(a);
        if (!name.equals("feed")) {
            history += " " + call + "=" + due;
        }
        if (got.equals(due)) {
            CHECKS.same(call, 0, 0);
        } else if (right) {
            right = false;
            CHECKS.miss(call + " answered " + got + ", due is " + due + "; before:" + history);
        }
    }

    private static String answer(Checks.Call call) {
        try {
            return String.valueOf(call.answer());
        } catch (RuntimeException e) {
            return e.getClass().getSimpleName();
        }
    }

    private int call(String name, int[] a) {
        switch (name) {
            case "feed": return x.feed(a[0], a[1], a[2], a[3], a[4]);
            case "bridge": return x.bridge(a[0]);
            case "toll": return x.toll(a[0]);
            case "fault": return x.fault();
            case "told": return x.told(a[0]);
            case "traveller": return x.traveller(a[0], a[1]);
            case "day": return x.day(a[0], a[1]);
            case "altitude": return x.altitude(a[0], a[1], a[2]);
            case "shadow": return x.shadow(a[0], a[1], a[2], a[3]);
            case "law": return x.law(a[0], a[1]);
            case "coins": return x.coins(a[0], a[1], a[2], a[3], a[4] != 0);
            case "best": return x.best(a[0], a[1], a[2], a[3]);
            case "week": return x.week(a[0], a[1]);
            case "plan": return x.plan(a[0], a[1], a[2] != 0, a[3]);
            case "slot": return x.slot(a[0], a[1], a[2] != 0, a[3]);
            case "slots": return x.slots();
            case "most": return x.most(a[0]);
            case "cross": return x.cross(a[0], a[1], a[2], a[3]);
            case "undo": return x.undo();
            case "taken": return x.taken(a[0]);
            case "write": return x.write(a[0], a[1]);
            case "stolen": return x.stolen(a[0]);
            case "much": return x.much();
            case "lines": return x.lines(a[0], a[1], a[2]);
            case "war": return x.war(a[0], a[1], a[2]);
            case "ledger": return x.ledger(a[0], a[1]);
            case "forget": return x.forget();
            case "fits": return x.fits(a[0], a[1], a[2]);
            case "sky": return x.sky(a[0]);
            case "season": return x.season(a[0], a[1], a[2]);
            case "span": return x.span(a[0], a[1], a[2], a[3], a[4]);
            case "image": return x.image();
            case "restore": return x.restore();
            case "count": return x.count(a[0]);
            default: throw new AssertionError(name);
        }
    }

    private int pick(int least, int greatest) {
        return least + random.nextInt(greatest - least + 1);
    }

    /** Mostly within the bounds, now and then one beyond them. */
    private int near(int least, int greatest) {
        int n = random.nextInt(40);
        if (n < 2) {
            return n == 0 ? least - 1 : greatest + 1;
        }
        if (n < 6) {
            return n % 2 == 0 ? least : greatest;
        }
        return n == 6 && random.nextInt(4) == 0 ? random.nextInt() : pick(least, greatest);
    }

    /** A number of a text: now and then one of its bounds, seldom one beyond them. */
    private int edgy(int least, int greatest) {
        int n = random.nextInt(300);
        if (n < 40) {
            return n == 0 ? greatest + 1 : n % 2 == 0 ? least : greatest;
        }
        return pick(least, greatest);
    }

    private int minute() {
        return random.nextInt(4) == 0 ? near(0, 1439) : pick(595, 850);
    }

    private int[] arguments(String name, int many) {
        int day = near(0, 29);
        int k = near(0, Math.max(0, oracle.call("told", 0) - 1));
        int bits = random.nextInt(10) == 0 ? near(0, 255) : pick(0, (1 << oracle.call("told", 0)) - 1);
        int bridge = random.nextInt(10) == 0 ? near(0, 1) : pick(0, oracle.call("told", 8));
        int both = random.nextInt(10) == 0 ? 1 : pick(0, oracle.call("told", 8));
        switch (name) {
            case "told": return new int[] {near(0, 9)};
            case "traveller": return new int[] {k, near(0, 6)};
            case "day": return new int[] {day, near(0, 1)};
            case "altitude": return new int[] {bridge, day, minute()};
            case "shadow": return new int[] {bridge, day, minute(), near(1, 999)};
            case "law": return new int[] {bridge, near(0, 3)};
            case "coins": return new int[] {bridge, k, day, minute(), random.nextInt(2)};
            case "best": return new int[] {bridge, k, day, near(0, 1)};
            case "week": return new int[] {bridge, k};
            case "plan": return new int[] {bits, day, both, near(0, 4)};
            case "slot": return new int[] {bits, day, both, k};
            case "cross": return new int[] {bridge, k, day, minute()};
            case "taken": return new int[] {near(0, 29)};
            case "write": return new int[] {day, random.nextBoolean() ? near(0, 99999) : pick(-1, 300)};
            case "lines": return new int[] {day, near(0, 9), near(0, 2)};
            case "war": return new int[] {day, near(0, 20), near(0, 1)};
            case "ledger": return new int[] {minute(), random.nextBoolean() ? pick(0, 20) : near(0, 9999)};
            case "fits": return new int[] {near(0, 3), near(1, 999), near(0, 1)};
            case "sky": return new int[] {random.nextInt()};
            case "season": return new int[] {day, near(1, Math.max(1, Math.min(6, 30 - day))), random.nextInt()};
            case "span": return new int[] {day, near(1, Math.max(1, Math.min(4, 30 - day))),
                random.nextInt(3) == 0 ? Integer.MAX_VALUE - 1 : random.nextInt(), random.nextInt(8) == 0 ? near(1, 50) : pick(1, 5), near(0, 1)};
            case "count": return new int[] {near(0, 4)};
            case "most":
            case "stolen": return new int[] {day};
            default: return new int[many];
        }
    }

    private String blank() {
        return random.nextInt(5) == 0 ? " ".repeat(pick(1, 2)) : "";
    }

    private String road() {
        StringBuilder s = new StringBuilder();
        int slots = pick(1, 4);
        int takes = pick(20, 60);
        int opens = pick(590, 700);
        if (random.nextInt(8) != 0) {
            s.append("keeper ").append(opens).append(' ').append(Math.max(opens + 1, opens + slots * takes + pick(-1, 5))).append(';');
        } else {
            s.append("keeper 600 601;");
        }
        s.append("takes ").append(takes).append(';');
        int people = pick(0, 4);
        int told = 0;
        int clauses = pick(0, 12);
        for (int i = 0; i < people + clauses; i++) {
            s.append(blank());
            if (told < people && random.nextBoolean()) {
                int from = pick(opens - 60, opens + 60);
                s.append("traveller ").append(edgy(50, 400)).append(' ').append(random.nextBoolean() ? edgy(1, 999) : pick(1, 30)).append(' ')
                    .append(from).append(' ').append(edgy(from, from + 200)).append(' ').append(random.nextBoolean() ? 0 : edgy(0, 9));
                told++;
            } else {
                s.append(clause(told));
            }
            s.append(blank()).append(';');
        }
        return s.append(blank()).toString();
    }

    private String clause(int told) {
        switch (pick(0, 10)) {
            case 0: return "sun " + edgy(0, 29) + " " + (random.nextInt(4) == 0 ? edgy(60, 5400) : pick(100, 3500));
            case 1: return "falls " + edgy(1, 9);
            case 2: return told == 0 ? "shade" : "hat " + edgy(0, told - 1) + " " + edgy(1, 99);
            case 3: return told == 0 ? "shade" : "lies " + edgy(0, told - 1) + " " + edgy(10, 400);
            case 4: return "feast " + edgy(0, 29);
            case 5: return "cloud " + edgy(0, 16);
            case 6:
            case 7: return "second " + edgy(0, 60) + " " + (random.nextBoolean() ? edgy(0, 99) : pick(0, 5));
            case 8: return "lamp " + edgy(1, 5400);
            default: return "shade";
        }
    }

    private String law() {
        StringBuilder s = new StringBuilder();
        int rows = random.nextInt(12) == 0 ? 0 : pick(1, random.nextInt(8) == 0 ? 11 : 4);
        for (int i = 0; i < rows && s.length() < 400; i++) {
            s.append(blank()).append("pay ").append(sum(pick(0, 3)));
            if (random.nextBoolean()) {
                s.append(" if ").append(condition(pick(0, 3)));
            }
            s.append(blank()).append(';');
        }
        return s.length() > 480 ? "pay shadow;" : s.append(blank()).toString();
    }

    private String sum(int deep) {
        StringBuilder s = new StringBuilder(unit(deep));
        while (random.nextInt(3) == 0) {
            s.append(blank()).append("+-*/".charAt(pick(0, 3))).append(blank()).append(unit(deep));
        }
        return s.toString();
    }

    private String unit(int deep) {
        if (deep > 0 && random.nextInt(3) == 0) {
            return "(" + blank() + sum(deep - 1) + blank() + ")";
        }
        String[] words = {"shadow", "shadow", "height", "weight", "hour", "day", "feast"};
        if (random.nextInt(3) != 0) {
            return words[pick(0, words.length - 1)];
        }
        return String.valueOf(random.nextInt(4) == 0 ? edgy(0, 9999) : pick(0, 12));
    }

    private String condition(int deep) {
        StringBuilder s = new StringBuilder(simple(deep));
        while (random.nextInt(3) == 0) {
            s.append(random.nextBoolean() ? " or " : " and ").append(simple(deep));
        }
        return s.toString();
    }

    private String simple(int deep) {
        int n = deep > 0 ? random.nextInt(4) : 3;
        if (n == 0) {
            return "not " + simple(deep - 1);
        }
        if (n == 1) {
            return "[" + condition(deep - 1) + blank() + "]";
        }
        return sum(deep) + blank() + "<>=".charAt(pick(0, 2)) + blank() + sum(deep);
    }

    /** One text in six gets a wrong byte, loses one, is cut or nested too deep. */
    private String spoil(String s) {
        if (s.isEmpty() || random.nextInt(6) != 0) {
            return s;
        }
        int i = random.nextInt(s.length());
        String signs = "0123456789;()[]<>=+-*/ az\0\u00ff" + "A~";
        switch (random.nextInt(5)) {
            case 0: return s.substring(0, i);
            case 1: return s.substring(0, i) + s.substring(i + 1);
            case 2: return s.substring(0, i) + signs.charAt(random.nextInt(signs.length())) + s.substring(i + 1);
            case 3: return s.substring(0, i) + signs.charAt(random.nextInt(signs.length())) + s.substring(i);
            default: return s.replaceFirst("\\(", "(".repeat(pick(1, 7))).replaceFirst(" if ", " if " + (random.nextBoolean() ? "[" : "not ").repeat(pick(1, 7)));
        }
    }
}
