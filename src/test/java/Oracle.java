import java.util.ArrayList;
import java.util.Arrays;
import java.util.List;
import java.util.NoSuchElementException;

/** The document once more, written for its plainness: plans are found by trying them all. */
final class Oracle {
    /** A fault of a text. */
    private static final class Fault extends RuntimeException {
        private static final long serialVersionUID = 1;
        final int kind;
        final int place;

        Fault(int kind, int place) {
            super(null, null, false, false);
            this.kind = kind;
            this.place = place;
        }
    }

    /** A part of a toll: its sign or word, and its parts. */
    private record Node(String what, int number, Node left, Node right) {
    }

    private record Row(Node pays, Node when) {
    }

    private record Crossing(int day, int coins) {
    }

    private static final class Person {
        int height;
        int weight;
        int from;
        int to;
        int cost;
        int hat;
        int lying;

        int standing() {
            return height + hat;
        }
    }

    private static final class Road {
        int[] suns = new int[30];
        boolean[] feasts = new boolean[30];
        List<Person> people = new ArrayList<>();
        int falls = 4;
        int opens = 360;
        int closes = 1080;
        int takes = 30;
        int clouds;
        int lamp;
        int early;
        int way;
        boolean shade;
        boolean second;
    }

    private static final class State {
        int[] tollOf = new int[2];
        List<Crossing> crossings = new ArrayList<>();
        int[] written = new int[30];
        List<int[]> ledger = new ArrayList<>();

        State() {
            Arrays.fill(written, -1);
        }

        State copy() {
            State s = new State();
            s.tollOf = tollOf.clone();
            s.crossings = new ArrayList<>(crossings);
            s.written = written.clone();
            s.ledger = new ArrayList<>(ledger);
            return s;
        }
    }

    /** A plan: who is in each slot (-1 nobody), and what it comes to. */
    private static final class Plan {
        int[] seats;
        int left;
        int costs;
        int[] earned = new int[2];
        int jam;
        int[] coinsIn;
        int[] coinsDark;
    }

    private final List<Integer> tape = new ArrayList<>();
    private final List<List<Row>> tolls = new ArrayList<>();
    private Road road = new Road();
    private State state = new State();
    private List<State> images = new ArrayList<>();
    private int place = -1;

    private List<Integer> text;
    private int spot;
    private int seed;

    int call(String name, int... a) {
        switch (name) {
            case "feed": return feed(a);
            case "bridge": return bridge(a[0]);
            case "toll": return toll(a[0]);
            case "fault": return place;
            case "told": return told(a[0]);
            case "traveller": return traveller(a[0], a[1]);
            case "day":
                check(inDay(a[0]) && in(a[1], 0, 1));
                return a[1] == 0 ? noon(a[0]) : road.feasts[a[0]] ? 1 : 0;
            case "altitude":
                checkBridge(a[0]);
                check(inDay(a[1]) && inMinute(a[2]));
                return altitude(a[0], a[1], a[2]);
            case "shadow":
                checkBridge(a[0]);
                check(inDay(a[1]) && inMinute(a[2]) && in(a[3], 1, 999));
                return shadow(a[3], altitude(a[0], a[1], a[2]));
            case "law": {
                checkBridge(a[0]);
                check(in(a[1], 0, tolls.size() - 1));
                int was = state.tollOf[a[0]];
                state.tollOf[a[0]] = a[1];
                return was;
            }
            case "coins":
                checkBridge(a[0]);
                checkPerson(a[1]);
                check(inDay(a[2]) && inMinute(a[3]));
                return fare(lawOf(a[0]), a[0], person(a[1]), a[2], a[3], a[4] != 0);
            case "best":
                checkBridge(a[0]);
                checkPerson(a[1]);
                check(inDay(a[2]) && in(a[3], 0, 1));
                return best(a[0], a[1], a[2])[a[3]];
            case "week": return week(a[0], a[1]);
            case "plan": {
                check(fine(a[0], a[2] != 0) && inDay(a[1]) && in(a[3], 0, 4));
                Plan p = plan(a[0], a[1], a[2] != 0, lawOf(0), lawOf(1), false);
                return new int[] {p.left, p.costs, p.earned[0], p.earned[1], p.jam}[a[3]];
            }
            case "slot": {
                checkPerson(a[3]);
                check(fine(a[0], a[2] != 0) && inDay(a[1]));
                int[] seats = plan(a[0], a[1], a[2] != 0, lawOf(0), lawOf(1), false).seats;
                for (int i = 0; i < seats.length; i++) {
                    if (seats[i] == a[3]) {
                        return i < slots() ? i : 100 + i - slots();
                    }
                }
                return -1;
            }
            case "slots": return slots();
            case "most":
                check(inDay(a[0]));
                return most(a[0]);
            default: return callBooks(name, a);
        }
    }

    private int callBooks(String name, int... a) {
        switch (name) {
            case "cross": return cross(a[0], a[1], a[2], a[3]);
            case "undo": return state.crossings.isEmpty() ? -1 : state.crossings.remove(state.crossings.size() - 1).coins();
            case "taken":
                check(a[0] == -1 || inDay(a[0]));
                return taken(a[0]);
            case "write": {
                check(inDay(a[0]) && in(a[1], -1, 99999));
                int was = state.written[a[0]];
                state.written[a[0]] = a[1];
                return was;
            }
            case "stolen":
                check(inDay(a[0]));
                return state.written[a[0]] == -1 ? 0 : taken(a[0]) - state.written[a[0]];
            case "much":
                for (int d = 0; d < 30; d++) {
                    if (state.written[d] != -1 && state.written[d] > most(d)) {
                        return d;
                    }
                }
                return -1;
            case "lines": return lines(a[0], a[1], a[2]);
            case "war": return war(a[0], a[1], a[2]);
            case "ledger":
                check(inMinute(a[0]) && in(a[1], 0, 9999));
                if (state.ledger.size() == 10) {
                    return -1;
                }
                state.ledger.add(new int[] {a[0], a[1]});
                return state.ledger.size();
            case "forget": {
                int were = state.ledger.size();
                state.ledger.clear();
                return were;
            }
            case "fits": return fits(a[0], a[1], a[2]);
            case "sky":
                seed = a[0];
                return sky();
            case "season":
                check(inDay(a[0]) && a[1] >= 1 && a[1] <= 30 && a[0] + a[1] <= 30);
                return season(a[0], a[1], a[2]);
            case "span": return span(a);
            case "image":
                if (images.size() == 3) {
                    return -1;
                }
                images.add(state.copy());
                return images.size();
            case "restore":
                if (images.isEmpty()) {
                    return -1;
                }
                state = images.remove(images.size() - 1);
                return images.size();
            case "count": return count(a[0]);
            default: throw new AssertionError(name);
        }
    }

    private static void check(boolean fine) {
        if (!fine) {
            throw new IllegalArgumentException();
        }
    }

    private static boolean in(int n, int least, int greatest) {
        return n >= least && n <= greatest;
    }

    private static boolean inDay(int d) {
        return in(d, 0, 29);
    }

    private static boolean inMinute(int m) {
        return in(m, 0, 1439);
    }

    private void checkBridge(int b) {
        if (b != 0 && !(b == 1 && road.second)) {
            throw new IndexOutOfBoundsException();
        }
    }

    private void checkPerson(int k) {
        if (k < 0 || k >= road.people.size()) {
            throw new NoSuchElementException();
        }
    }

    private boolean fine(int bits, boolean both) {
        return bits >= 0 && bits < 1 << road.people.size() && (!both || road.second);
    }

    private Person person(int k) {
        return road.people.get(k);
    }

    private int everybody() {
        return (1 << road.people.size()) - 1;
    }

    private List<Row> lawOf(int bridge) {
        return tolls.isEmpty() ? List.of() : tolls.get(state.tollOf[bridge]);
    }

    private int feed(int[] five) {
        if (tape.size() > 480) {
            return -1;
        }
        for (int n : five) {
            tape.add(n >>> 24);
            tape.add(n >>> 16 & 255);
            tape.add(n >>> 8 & 255);
            tape.add(n & 255);
        }
        return tape.size();
    }

    private void take(int n) {
        check(in(n, 0, tape.size()));
        text = new ArrayList<>(tape.subList(0, n));
        tape.clear();
        spot = 0;
        place = -1;
    }

    private int bridge(int n) {
        take(n);
        try {
            road = readRoad();
        } catch (Fault f) {
            place = f.place;
            return f.kind - 10;
        }
        state = new State();
        images = new ArrayList<>();
        return road.people.size();
    }

    private int toll(int n) {
        take(n);
        if (tolls.size() == 4) {
            return -1;
        }
        List<Row> rows;
        try {
            rows = readLaw();
        } catch (Fault f) {
            place = f.place;
            return f.kind - 10;
        }
        tolls.add(rows);
        return tolls.size() - 1;
    }

    private void blanks() {
        while (spot < text.size() && text.get(spot) == 32) {
            spot++;
        }
    }

    private boolean atEnd() {
        blanks();
        return spot == text.size();
    }

    private int next() {
        return atEnd() ? -1 : text.get(spot);
    }

    /** The word that stands here, "" for none; it is not passed. */
    private String word() {
        blanks();
        StringBuilder w = new StringBuilder();
        for (int i = spot; i < text.size() && text.get(i) >= 'a' && text.get(i) <= 'z'; i++) {
            w.append((char) (int) text.get(i));
        }
        return w.toString();
    }

    private boolean passWord(String w) {
        if (!word().equals(w)) {
            return false;
        }
        spot += w.length();
        return true;
    }

    private boolean passSign(char c) {
        if (next() != c) {
            return false;
        }
        spot++;
        return true;
    }

    private void mustSign(char c) {
        if (!passSign(c)) {
            throw new Fault(1, spot);
        }
    }

    private int readNumber(int least, int greatest) {
        blanks();
        int from = spot;
        java.math.BigInteger n = java.math.BigInteger.ZERO;
        while (spot < text.size() && text.get(spot) >= '0' && text.get(spot) <= '9') {
            n = n.multiply(java.math.BigInteger.TEN).add(java.math.BigInteger.valueOf(text.get(spot) - '0'));
            spot++;
        }
        if (spot == from) {
            throw new Fault(1, from);
        }
        if (n.bitLength() > 20 || !in(n.intValue(), least, greatest)) {
            throw new Fault(2, from);
        }
        return n.intValue();
    }

    private Road readRoad() {
        Road r = new Road();
        int clauses = 0;
        List<String> words = List.of("sun", "falls", "keeper", "takes", "traveller", "hat", "lies", "feast", "cloud", "second", "lamp", "shade");
        while (!atEnd()) {
            String w = word();
            if (!words.contains(w)) {
                throw new Fault(1, spot);
            }
            clauses++;
            if (clauses > 40 || w.equals("traveller") && r.people.size() == 8) {
                throw new Fault(3, spot);
            }
            spot += w.length();
            readClause(r, w);
            mustSign(';');
        }
        return r;
    }

    private void readClause(Road r, String w) {
        switch (w) {
            case "sun" -> {
                int d = readNumber(0, 29);
                r.suns[d] = readNumber(60, 5400);
            }
            case "falls" -> r.falls = readNumber(1, 9);
            case "keeper" -> {
                r.opens = readNumber(0, 1438);
                r.closes = readNumber(r.opens + 1, 1439);
            }
            case "takes" -> r.takes = readNumber(1, 60);
            case "traveller" -> {
                Person p = new Person();
                p.height = readNumber(50, 400);
                p.weight = readNumber(1, 999);
                p.from = readNumber(0, 1439);
                p.to = readNumber(p.from, 1439);
                p.cost = readNumber(0, 9);
                r.people.add(p);
            }
            case "hat" -> {
                int k = readNumber(0, r.people.size() - 1);
                r.people.get(k).hat = readNumber(1, 99);
            }
            case "lies" -> {
                int k = readNumber(0, r.people.size() - 1);
                r.people.get(k).lying = readNumber(10, 400);
            }
            case "feast" -> r.feasts[readNumber(0, 29)] = true;
            case "cloud" -> r.clouds = readNumber(0, 16);
            case "second" -> {
                r.early = readNumber(0, 60);
                r.way = readNumber(0, 99);
                r.second = true;
            }
            case "lamp" -> r.lamp = readNumber(1, 5400);
            default -> r.shade = true;
        }
    }

    private List<Row> readLaw() {
        List<Row> rows = new ArrayList<>();
        while (!atEnd()) {
            if (!word().equals("pay")) {
                throw new Fault(1, spot);
            }
            if (rows.size() == 10) {
                throw new Fault(3, spot);
            }
            spot += 3;
            Node pays = readE(0);
            Node when = passWord("if") ? readC(0) : null;
            mustSign(';');
            rows.add(new Row(pays, when));
        }
        return rows;
    }

    private void open(int depth) {
        if (depth == 6) {
            throw new Fault(3, spot);
        }
    }

    private Node readC(int depth) {
        Node n = readD(depth);
        while (passWord("or")) {
            n = new Node("or", 0, n, readD(depth));
        }
        return n;
    }

    private Node readD(int depth) {
        Node n = readB(depth);
        while (passWord("and")) {
            n = new Node("and", 0, n, readB(depth));
        }
        return n;
    }

    private Node readB(int depth) {
        if (word().equals("not")) {
            open(depth);
            spot += 3;
            return new Node("not", 0, readB(depth + 1), null);
        }
        if (next() == '[') {
            open(depth);
            spot++;
            Node n = readC(depth + 1);
            mustSign(']');
            return n;
        }
        Node left = readE(depth);
        for (char c : new char[] {'<', '>', '='}) {
            if (passSign(c)) {
                return new Node(String.valueOf(c), 0, left, readE(depth));
            }
        }
        throw new Fault(1, spot);
    }

    private Node readE(int depth) {
        Node n = readT(depth);
        while (next() == '+' || next() == '-') {
            String sign = String.valueOf((char) next());
            spot++;
            n = new Node(sign, 0, n, readT(depth));
        }
        return n;
    }

    private Node readT(int depth) {
        Node n = readU(depth);
        while (next() == '*' || next() == '/') {
            String sign = String.valueOf((char) next());
            spot++;
            n = new Node(sign, 0, n, readU(depth));
        }
        return n;
    }

    private Node readU(int depth) {
        if (next() == '(') {
            open(depth);
            spot++;
            Node n = readE(depth + 1);
            mustSign(')');
            return n;
        }
        for (String w : List.of("shadow", "height", "weight", "hour", "day", "feast")) {
            if (passWord(w)) {
                return new Node(w, 0, null, null);
            }
        }
        return new Node("number", readNumber(0, 9999), null, null);
    }

    private int told(int what) {
        check(in(what, 0, 9));
        return new int[] {road.people.size(), road.falls, road.opens, road.closes, road.takes, road.clouds, road.lamp,
            road.shade ? 1 : 0, road.second ? 1 : 0, tolls.size()}[what];
    }

    private int traveller(int k, int what) {
        checkPerson(k);
        check(in(what, 0, 6));
        Person p = person(k);
        return new int[] {p.height, p.weight, p.from, p.to, p.cost, p.hat, p.lying}[what];
    }

    private int noon(int day) {
        for (int d = day; d >= 0; d--) {
            if (road.suns[d] != 0) {
                return road.suns[d];
            }
        }
        return 2700;
    }

    private int altitude(int bridge, int day, int minute) {
        int high = noon(day) - road.falls * Math.abs(minute - (720 - bridge * road.early));
        return high >= 1 ? high : road.lamp;
    }

    private static int shadow(int height, int altitude) {
        return altitude == 0 ? 0 : Math.min(9999, height * (5400 - altitude) / altitude);
    }

    private int value(Node n, int[] facts) {
        int fact = List.of("shadow", "height", "weight", "hour", "day", "feast").indexOf(n.what());
        if (fact >= 0) {
            return facts[fact];
        }
        if (n.what().equals("number")) {
            return n.number();
        }
        int l = value(n.left(), facts);
        int r = value(n.right(), facts);
        return switch (n.what()) {
            case "+" -> l + r;
            case "-" -> l - r;
            case "*" -> l * r;
            default -> r == 0 ? 0 : l / r;
        };
    }

    private boolean holds(Node n, int[] facts) {
        return switch (n.what()) {
            case "or" -> holds(n.left(), facts) || holds(n.right(), facts);
            case "and" -> holds(n.left(), facts) && holds(n.right(), facts);
            case "not" -> !holds(n.left(), facts);
            case "<" -> value(n.left(), facts) < value(n.right(), facts);
            case ">" -> value(n.left(), facts) > value(n.right(), facts);
            default -> value(n.left(), facts) == value(n.right(), facts);
        };
    }

    private int pays(List<Row> law, int shadow, int height, int weight, int day, int minute) {
        int[] facts = {shadow, height, weight, minute / 60, day, road.feasts[day] ? 1 : 0};
        long all = 0;
        for (Row r : law) {
            if (r.when() == null || holds(r.when(), facts)) {
                all += value(r.pays(), facts);
            }
        }
        return (int) Math.min(9999, Math.max(0, all));
    }

    private int fare(List<Row> law, int bridge, Person p, int day, int minute, boolean dark) {
        int altitude = altitude(bridge, day, minute);
        int up = pays(law, dark ? 0 : shadow(p.standing(), altitude), p.standing(), p.weight, day, minute);
        if (p.lying == 0) {
            return up;
        }
        int down = pays(law, dark ? 0 : shadow(p.lying, altitude), p.lying, 2 * p.weight, day, minute);
        return Math.min(up, down);
    }

    private int[] best(int bridge, int k, int day) {
        Person p = person(k);
        int[] found = {-1, -1};
        for (int m = 0; m < 1440; m++) {
            if (in(m, road.opens, road.closes) && in(m, p.from, p.to)) {
                int costs = fare(lawOf(bridge), bridge, p, day, m, false) + p.cost * (m - p.from) + bridge * road.way;
                if (found[0] == -1 || costs < found[1]) {
                    found = new int[] {m, costs};
                }
            }
        }
        return found;
    }

    private int week(int bridge, int k) {
        checkBridge(bridge);
        checkPerson(k);
        int day = -1;
        int least = Integer.MAX_VALUE;
        for (int d = 0; d < 30; d++) {
            int[] b = best(bridge, k, d);
            if (b[0] != -1 && b[1] < least) {
                least = b[1];
                day = d;
            }
        }
        return day;
    }

    private int slots() {
        int n = 0;
        while (n < 30 && road.opens + (n + 1) * road.takes <= road.closes) {
            n++;
        }
        return n;
    }

    private Plan plan(int bits, int day, boolean both, List<Row> first, List<Row> second, boolean most) {
        int[] seats = new int[slots() * (both ? 2 : 1)];
        List<List<Row>> laws = List.of(first, second);
        if (seats.length * Integer.bitCount(bits) > 24) {
            return planBySlots(seats, bits, day, laws, most);
        }
        Plan[] found = new Plan[1];
        tryAll(seats, 0, bits, bits, day, laws, most, found);
        return found[0];
    }

    /** The best of what stands from a slot on: its seats are a chain, so that equals can be told apart seat by seat. */
    private record Tail(int left, int costs, int earned, int seat, Tail next) {
        boolean isBetter(Tail other, boolean most) {
            if (most) {
                return earned > other.earned;
            }
            if (left != other.left || costs != other.costs) {
                return left < other.left || left == other.left && costs < other.costs;
            }
            Tail a = this;
            Tail b = other;
            while (a.seat == b.seat && a.next != null) {
                a = a.next;
                b = b.next;
            }
            return a.seat != b.seat && a.seat != -1 && (b.seat == -1 || a.seat < b.seat);
        }
    }

    /** What one pays in a slot, behind one who shades him or not; for plans that are too large to try them all. */
    private Plan planBySlots(int[] seats, int bits, int day, List<List<Row>> laws, boolean most) {
        int people = road.people.size();
        int[][] fares = new int[2][seats.length * people];
        for (int i = 0; i < seats.length * people; i++) {
            int slot = i / people;
            int minute = road.opens + slot % slots() * road.takes;
            for (int dark = 0; dark < 2; dark++) {
                fares[dark][i] = fare(laws.get(slot / slots()), slot / slots(), person(i % people), day, minute, dark == 1);
            }
        }
        Tail t = bestTail(0, seats.length, bits, -1, fares, most, new java.util.HashMap<>());
        for (int i = 0; i < seats.length; i++) {
            seats[i] = t.seat();
            t = t.next();
        }
        return weigh(seats, bits, day, laws);
    }

    private Tail bestTail(int slot, int all, int waiting, int last, int[][] fares, boolean most, java.util.Map<Integer, Tail> known) {
        if (slot == all) {
            return new Tail(Integer.bitCount(waiting), 0, 0, -1, null);
        }
        int key = (slot * 256 + waiting) * 9 + last + 1;
        if (known.containsKey(key)) {
            return known.get(key);
        }
        Tail rest = bestTail(slot + 1, all, waiting, -1, fares, most, known);
        Tail found = new Tail(rest.left(), rest.costs(), rest.earned(), -1, rest);
        int bridge = slot / slots();
        int minute = road.opens + slot % slots() * road.takes;
        for (int k = 0; k < road.people.size(); k++) {
            Person p = person(k);
            if ((waiting >> k & 1) == 1 && in(minute, p.from, p.to)) {
                boolean dark = road.shade && slot % slots() > 0 && last != -1 && person(last).standing() > p.standing();
                int coins = fares[dark ? 1 : 0][slot * road.people.size() + k];
                int costs = coins + p.cost * (minute - p.from) + bridge * road.way;
                rest = bestTail(slot + 1, all, waiting & ~(1 << k), k, fares, most, known);
                Tail t = new Tail(rest.left(), rest.costs() + costs, rest.earned() + coins, k, rest);
                found = t.isBetter(found, most) ? t : found;
            }
        }
        known.put(key, found);
        return found;
    }

    /** All plans, those with the least traveller in the first slots first: so only a better one replaces one. */
    private void tryAll(int[] seats, int i, int waiting, int bits, int day, List<List<Row>> laws, boolean most, Plan[] found) {
        if (i == seats.length) {
            Plan p = weigh(seats, bits, day, laws);
            if (found[0] == null || (most ? p.earned[0] > found[0].earned[0]
                : p.left < found[0].left || p.left == found[0].left && p.costs < found[0].costs)) {
                found[0] = p;
            }
            return;
        }
        int minute = road.opens + i % slots() * road.takes;
        for (int k = 0; k < road.people.size(); k++) {
            if ((waiting >> k & 1) == 1 && in(minute, person(k).from, person(k).to)) {
                seats[i] = k;
                tryAll(seats, i + 1, waiting & ~(1 << k), bits, day, laws, most, found);
            }
        }
        seats[i] = -1;
        tryAll(seats, i + 1, waiting, bits, day, laws, most, found);
    }

    private Plan weigh(int[] seats, int bits, int day, List<List<Row>> laws) {
        Plan p = new Plan();
        p.seats = seats.clone();
        p.coinsIn = new int[seats.length];
        p.coinsDark = new int[seats.length];
        p.left = Integer.bitCount(bits);
        for (int i = 0; i < seats.length; i++) {
            if (seats[i] == -1) {
                continue;
            }
            int bridge = i / slots();
            int minute = road.opens + i % slots() * road.takes;
            Person who = person(seats[i]);
            boolean behind = i % slots() > 0 && seats[i - 1] != -1 && person(seats[i - 1]).standing() > who.standing();
            p.coinsIn[i] = fare(laws.get(bridge), bridge, who, day, minute, road.shade && behind);
            p.coinsDark[i] = fare(laws.get(bridge), bridge, who, day, minute, true);
            p.left--;
            p.earned[bridge] += p.coinsIn[i];
            p.costs += p.coinsIn[i] + who.cost * (minute - who.from) + bridge * road.way;
            p.jam = Math.max(p.jam, minute - who.from);
        }
        return p;
    }

    private int most(int day) {
        return plan(everybody(), day, false, lawOf(0), List.of(), true).earned[0];
    }

    private int cross(int bridge, int k, int day, int minute) {
        checkBridge(bridge);
        checkPerson(k);
        check(inDay(day) && inMinute(minute));
        if (state.crossings.size() == 60) {
            return -1;
        }
        Person p = person(k);
        if (!in(minute, road.opens, road.closes) || !in(minute, p.from, p.to)) {
            return -2;
        }
        int coins = fare(lawOf(bridge), bridge, p, day, minute, false);
        state.crossings.add(new Crossing(day, coins));
        return coins;
    }

    private int taken(int day) {
        int all = 0;
        for (Crossing c : state.crossings) {
            all += day == -1 || c.day() == day ? c.coins() : 0;
        }
        return all;
    }

    private static Node fact(String w) {
        return new Node(w, 0, null, null);
    }

    private static Node sign(String s, Node l, Node r) {
        return new Node(s, 0, l, r);
    }

    private static Node num(int n) {
        return new Node("number", n, null, null);
    }

    private int lines(int day, int j, int what) {
        check(inDay(day) && in(j, 0, 9) && in(what, 0, 2));
        int[] found = null;
        int greatest = 0;
        for (int a = 0; a < 10; a++) {
            for (int b = 0; b < 10; b++) {
                List<Row> law = List.of(
                    new Row(sign("/", sign("*", fact("shadow"), num(a)), num(100)), null),
                    new Row(sign("/", sign("*", fact("weight"), num(b)), num(10)), null));
                Plan p = plan(everybody(), day, false, law, List.of(), false);
                int worth = p.earned[0] - j * p.jam;
                if (found == null || worth > greatest) {
                    greatest = worth;
                    found = new int[] {10 * a + b, p.earned[0], p.jam};
                }
            }
        }
        return found[what];
    }

    private int answer(int day, int bridge, int other) {
        int found = 0;
        int greatest = -1;
        for (int t = 0; t < tolls.size(); t++) {
            Plan p = plan(everybody(), day, true, tolls.get(bridge == 0 ? t : other), tolls.get(bridge == 0 ? other : t), false);
            if (p.earned[bridge] > greatest) {
                greatest = p.earned[bridge];
                found = t;
            }
        }
        return found;
    }

    private int war(int day, int turns, int what) {
        check(inDay(day) && in(turns, 0, 20) && in(what, 0, 1));
        if (!road.second || tolls.isEmpty()) {
            throw new IllegalStateException();
        }
        int[] now = state.tollOf.clone();
        for (int i = 0; i < turns; i++) {
            now[i % 2] = answer(day, i % 2, now[1 - i % 2]);
        }
        if (what == 0) {
            return 10 * now[0] + now[1];
        }
        return answer(day, 0, now[1]) == now[0] && answer(day, 1, now[0]) == now[1] ? 1 : 0;
    }

    private int fits(int toll, int weight, int what) {
        check(in(toll, 0, tolls.size() - 1) && in(weight, 1, 999) && in(what, 0, 1));
        int many = 0;
        int first = -1;
        for (int d = 0; d < 30; d++) {
            for (int h = 50; h <= 400; h++) {
                boolean all = true;
                for (int[] row : state.ledger) {
                    all &= pays(tolls.get(toll), shadow(h, altitude(0, d, row[0])), h, weight, d, row[0]) == row[1];
                }
                if (all) {
                    many++;
                    first = first == -1 ? 1000 * d + h : first;
                }
            }
        }
        return what == 0 ? many : first;
    }

    private int sky() {
        int bits = 0;
        for (int hour = 0; hour < 24; hour++) {
            seed = (int) (seed * 1103515245L + 12345L);
            int draw = (seed >>> 16) % 32768 % 16;
            bits += draw < road.clouds ? 1 << hour : 0;
        }
        return bits;
    }

    private int season(int day, int days, int begin) {
        seed = begin;
        int all = 0;
        for (int d = day; d < day + days; d++) {
            int sky = sky();
            Plan p = plan(everybody(), d, false, lawOf(0), List.of(), false);
            for (int i = 0; i < p.seats.length; i++) {
                if (p.seats[i] != -1) {
                    int hour = (road.opens + i * road.takes) / 60;
                    all += (sky >> hour & 1) == 1 ? p.coinsDark[i] : p.coinsIn[i];
                }
            }
        }
        return all;
    }

    private int span(int[] a) {
        check(inDay(a[0]) && a[1] >= 1 && a[1] <= 30 && a[0] + a[1] <= 30 && in(a[3], 1, 50) && in(a[4], 0, 1));
        int least = Integer.MAX_VALUE;
        int greatest = Integer.MIN_VALUE;
        for (int i = 0; i < a[3]; i++) {
            int s = season(a[0], a[1], a[2] + i);
            least = Math.min(least, s);
            greatest = Math.max(greatest, s);
        }
        return a[4] == 0 ? least : greatest;
    }

    private int count(int what) {
        return switch (what) {
            case 0 -> state.crossings.size();
            case 1 -> state.ledger.size();
            case 2 -> (int) Arrays.stream(state.written).filter(w -> w != -1).count();
            case 3 -> images.size();
            case 4 -> tape.size();
            default -> -1;
        };
    }
}
