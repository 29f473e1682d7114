import java.util.NoSuchElementException;

/** Bridges whose tolls go by the shadow: see ../shared/DOC.md for what every call answers. */
public final class ShadowTolls {
    public static final int NONE = -1;

    private static final int BYTES = 500;
    private static final int DAYS = 30;
    private static final int MINUTES = 1440;
    private static final int HOURS = 24;
    private static final int PEOPLE = 8;
    private static final int TOLLS = 4;
    private static final int SLOTS = 30;
    private static final int CROSSINGS = 60;
    private static final int ROWS = 10;
    private static final int IMAGES = 3;
    private static final int COINS = 9999;
    private static final int WRITTEN = 99999;
    private static final int WEIGHTS = 999;
    private static final int LOW = 50;
    private static final int HIGH = 400;
    private static final int TURNS = 20;
    private static final int SEEDS = 50;
    private static final int LINES = 10;

    private static final int WRONG = 1;
    private static final int NO_SUCH = 2;
    private static final int TOO_MANY = 3;

    private static final int HEIGHT = 0;
    private static final int WEIGHT = 1;
    private static final int FROM = 2;
    private static final int TO = 3;
    private static final int COST = 4;
    private static final int HAT = 5;
    private static final int LYING = 6;
    private static final int TRAITS = 7;

    private final Text text = new Text();
    private final Road road = new Road();
    private final Road draft = new Road();
    private final Law[] laws = new Law[TOLLS];
    private final Law lawDraft = new Law();
    private final Law freeLaw = new Law();
    private final Law lineLaw = new Law();
    private final RoadReader roadReader = new RoadReader(text, draft);
    private final LawReader lawReader = new LawReader(text, lawDraft);
    private final Planner planner = new Planner(road);
    private final Season months = new Season(road, planner);
    private final Records records = new Records();
    private final Records[] kept = new Records[IMAGES];
    private final int[] takings = new int[2 * TOLLS * TOLLS];
    private int tolls;
    private int keptCount;

    public ShadowTolls() {
        for (int i = 0; i < laws.length; i++) {
            laws[i] = new Law();
        }
        for (int i = 0; i < kept.length; i++) {
            kept[i] = new Records();
        }
    }

    public int feed(int a, int b, int c, int d, int e) {
        if (!text.hasRoom(20)) {
            return NONE;
        }
        text.add(a);
        text.add(b);
        text.add(c);
        text.add(d);
        text.add(e);
        return text.fed;
    }

    public int bridge(int n) throws IllegalArgumentException {
        needBetween(n, 0, text.fed);
        text.open(n);
        if (!roadReader.clauses()) {
            return text.fault - 10;
        }
        road.copy(draft);
        records.clear();
        keptCount = 0;
        return road.travellers;
    }

    public int toll(int n) throws IllegalArgumentException {
        needBetween(n, 0, text.fed);
        text.open(n);
        if (tolls < 0 || tolls >= laws.length) {
            // a fifth is the latest text all the same: no fault of it is told, so it need not be read
            return -1;
        }
        if (!lawReader.rows()) {
            return text.fault - 10;
        }
        Law law = laws[tolls];
        if (law != null) {
            law.copy(lawDraft);
        }
        tolls++;
        return tolls - 1;
    }

    public int fault() {
        return text.place;
    }

    public int told(int what) throws IllegalArgumentException {
        switch (what) {
            case 0: return road.travellers;
            case 1: return road.falls;
            case 2: return road.opens;
            case 3: return road.closes;
            case 4: return road.takes;
            case 5: return road.clouds;
            case 6: return road.lamp;
            case 7: return road.shades ? 1 : 0;
            case 8: return road.second ? 1 : 0;
            case 9: return tolls;
            default: throw new IllegalArgumentException("nothing is told under this number");
        }
    }

    public int traveller(int k, int what) throws NoSuchElementException, IllegalArgumentException {
        needTraveller(k);
        needBetween(what, 0, TRAITS - 1);
        return road.trait(k, what);
    }

    public int day(int day, int what) throws IllegalArgumentException {
        needDay(day);
        needBetween(what, 0, 1);
        return what == 0 ? at(road.noons, day) : at(road.feasts, day);
    }

    public int altitude(int bridge, int day, int minute) throws IndexOutOfBoundsException, IllegalArgumentException {
        needBridge(bridge);
        needDay(day);
        needMinute(minute);
        return road.altitudeAt(bridge, day, minute);
    }

    public int shadow(int bridge, int day, int minute, int height) throws IndexOutOfBoundsException, IllegalArgumentException {
        needBridge(bridge);
        needDay(day);
        needMinute(minute);
        needBetween(height, 1, 999);
        return shadowOf(height, road.altitudeAt(bridge, day, minute));
    }

    public int law(int bridge, int toll) throws IndexOutOfBoundsException, IllegalArgumentException {
        needBridge(bridge);
        needBetween(toll, 0, tolls - 1);
        int was = at(records.tollOf, bridge);
        put(records.tollOf, bridge, toll);
        return was;
    }

    public int coins(int bridge, int k, int day, int minute, boolean dark) throws IndexOutOfBoundsException, NoSuchElementException, IllegalArgumentException {
        needBridge(bridge);
        needTraveller(k);
        needDay(day);
        needMinute(minute);
        return road.fare(lawOf(bridge), bridge, k, day, minute, dark);
    }

    public int best(int bridge, int k, int day, int what) throws IndexOutOfBoundsException, NoSuchElementException, IllegalArgumentException {
        needBridge(bridge);
        needTraveller(k);
        needDay(day);
        needBetween(what, 0, 1);
        int minute = bestMinute(bridge, k, day);
        if (what == 0 || minute == NONE) {
            return minute;
        }
        return expense(bridge, k, day, minute);
    }

    public int week(int bridge, int k) throws IndexOutOfBoundsException, NoSuchElementException {
        needBridge(bridge);
        needTraveller(k);
        int bestDay = NONE;
        int least = 0;
        for (int day = 0; day < DAYS; day++) {
            int minute = bestMinute(bridge, k, day);
            int costs = minute == NONE ? 0 : expense(bridge, k, day, minute);
            if (minute != NONE && (bestDay == NONE || costs < least)) {
                bestDay = day;
                least = costs;
            }
        }
        return bestDay;
    }

    public int plan(int bits, int day, boolean both, int what) throws IllegalArgumentException {
        needPlan(bits, day, both);
        needBetween(what, 0, 4);
        planFor(bits, day, both, lawOf(0), lawOf(1));
        switch (what) {
            case 0: return planner.leftOut;
            case 1: return planner.costs;
            case 2: return planner.earnedAt(0);
            case 3: return planner.earnedAt(1);
            default: return planner.jam;
        }
    }

    public int slot(int bits, int day, boolean both, int k) throws NoSuchElementException, IllegalArgumentException {
        needTraveller(k);
        needPlan(bits, day, both);
        planFor(bits, day, both, lawOf(0), lawOf(1));
        return planner.slotOf(k);
    }

    public int slots() {
        return road.slotCount();
    }

    public int most(int day) throws IllegalArgumentException {
        needDay(day);
        return mostOf(day);
    }

    public int cross(int bridge, int k, int day, int minute) throws IndexOutOfBoundsException, NoSuchElementException, IllegalArgumentException {
        needBridge(bridge);
        needTraveller(k);
        needDay(day);
        needMinute(minute);
        if (records.crossings >= CROSSINGS) {
            return -1;
        }
        if (!road.isOpen(minute) || !road.mayCome(k, minute)) {
            return -2;
        }
        int paid = road.fare(lawOf(bridge), bridge, k, day, minute, false);
        records.addCrossing(day, paid);
        return paid;
    }

    public int undo() {
        if (records.crossings <= 0) {
            return -1;
        }
        records.crossings--;
        return at(records.crossCoins, records.crossings);
    }

    public int taken(int day) throws IllegalArgumentException {
        if (day != NONE) {
            needDay(day);
        }
        return records.sum(day);
    }

    public int write(int day, int coins) throws IllegalArgumentException {
        needDay(day);
        if (coins != NONE) {
            needBetween(coins, 0, WRITTEN);
        }
        int was = at(records.written, day);
        put(records.written, day, coins);
        return was;
    }

    public int stolen(int day) throws IllegalArgumentException {
        needDay(day);
        int told = at(records.written, day);
        return told == NONE ? 0 : records.sum(day) - told;
    }

    public int much() {
        for (int day = 0; day < DAYS; day++) {
            int told = at(records.written, day);
            if (told != NONE && told > mostOf(day)) {
                return day;
            }
        }
        return NONE;
    }

    public int lines(int day, int j, int what) throws IllegalArgumentException {
        needDay(day);
        needBetween(j, 0, 9);
        needBetween(what, 0, 2);
        int answer = 0;
        int greatest = 0;
        for (int a = 0; a < LINES; a++) {
            for (int b = 0; b < LINES; b++) {
                lineLaw.beTwoLines(a, b);
                planFor(road.everybody(), day, false, lineLaw, freeLaw);
                int worth = planner.earnedAt(0) - j * planner.jam;
                if ((a == 0 && b == 0) || worth > greatest) {
                    greatest = worth;
                    answer = what == 0 ? 10 * a + b : what == 1 ? planner.earnedAt(0) : planner.jam;
                }
            }
        }
        return answer;
    }

    public int war(int day, int turns, int what) throws IllegalArgumentException, IllegalStateException {
        needDay(day);
        needBetween(turns, 0, TURNS);
        needBetween(what, 0, 1);
        if (!road.second || tolls <= 0) {
            throw new IllegalStateException("a war needs a second bridge and a toll");
        }
        reckonTakings(day);
        int first = at(records.tollOf, 0);
        int second = at(records.tollOf, 1);
        for (int turn = 0; turn < turns; turn++) {
            if (turn % 2 == 0) {
                first = bestReply(0, second);
            } else {
                second = bestReply(1, first);
            }
        }
        if (what == 0) {
            return 10 * first + second;
        }
        return bestReply(0, second) == first && bestReply(1, first) == second ? 1 : 0;
    }

    public int ledger(int minute, int coins) throws IllegalArgumentException {
        needMinute(minute);
        needBetween(coins, 0, COINS);
        if (records.ledgerRows >= ROWS) {
            return -1;
        }
        records.addLedgerRow(minute, coins);
        return records.ledgerRows;
    }

    public int forget() {
        int were = records.ledgerRows;
        records.ledgerRows = 0;
        return were;
    }

    public int fits(int toll, int weight, int what) throws IllegalArgumentException {
        needBetween(toll, 0, tolls - 1);
        needBetween(weight, 1, WEIGHTS);
        needBetween(what, 0, 1);
        Law law = lawAt(toll);
        int many = 0;
        for (int day = 0; day < DAYS; day++) {
            for (int height = LOW; height <= HIGH; height++) {
                if (paysLedger(law, day, height, weight)) {
                    if (what == 1) {
                        return 1000 * day + height;
                    }
                    many++;
                }
            }
        }
        return what == 1 ? NONE : many;
    }

    public int sky(int seed) {
        return months.skyOf(seed);
    }

    public int season(int day, int days, int seed) throws IllegalArgumentException {
        needDay(day);
        needBetween(days, 1, DAYS - day);
        planDays(day, days);
        return months.takenUnder(days, seed);
    }

    public int span(int day, int days, int seed, int m, int what) throws IllegalArgumentException {
        needDay(day);
        needBetween(days, 1, DAYS - day);
        needBetween(m, 1, SEEDS);
        needBetween(what, 0, 1);
        planDays(day, days);
        int answer = months.takenUnder(days, seed);
        for (int i = 1; i < m; i++) {
            int next = months.takenUnder(days, seed + i);
            answer = what == 0 ? Math.min(answer, next) : Math.max(answer, next);
        }
        return answer;
    }

    public int image() {
        Records place = keptAt(keptCount);
        if (place == null) {
            return -1;
        }
        place.copy(records);
        keptCount++;
        return keptCount;
    }

    public int restore() {
        Records place = keptAt(keptCount - 1);
        if (place == null) {
            return -1;
        }
        records.copy(place);
        keptCount--;
        return keptCount;
    }

    public int count(int what) {
        switch (what) {
            case 0: return records.crossings;
            case 1: return records.ledgerRows;
            case 2: return records.daysWritten();
            case 3: return keptCount;
            case 4: return text.fed;
            default: return NONE;
        }
    }

    private static int at(int[] row, int i) {
        return i >= 0 && i < row.length ? row[i] : 0;
    }

    private static void put(int[] row, int i, int value) {
        if (i >= 0 && i < row.length) {
            row[i] = value;
        }
    }

    private static void copyRow(int[] from, int[] to) {
        for (int i = 0; i < to.length && i < from.length; i++) {
            to[i] = from[i];
        }
    }

    private static void fillRow(int[] row, int value) {
        for (int i = 0; i < row.length; i++) {
            row[i] = value;
        }
    }

    /** An altitude of 0 is no light: so clouds and shade can be told as one. */
    private static int shadowOf(int height, int altitude) {
        if (altitude <= 0) {
            return 0;
        }
        return Math.min(COINS, height * (5400 - altitude) / altitude);
    }

    private static void needBetween(int number, int least, int greatest) {
        if (number < least || number > greatest) {
            throw new IllegalArgumentException("a number is out of its bounds");
        }
    }

    private static void needDay(int day) {
        if (day < 0 || day >= DAYS) {
            throw new IllegalArgumentException("no such day");
        }
    }

    private static void needMinute(int minute) {
        if (minute < 0 || minute >= MINUTES) {
            throw new IllegalArgumentException("no such minute");
        }
    }

    private void needBridge(int bridge) {
        if (bridge != 0 && (bridge != 1 || !road.second)) {
            throw new IndexOutOfBoundsException("no such bridge");
        }
    }

    private void needTraveller(int k) {
        if (k < 0 || k >= road.travellers) {
            throw new NoSuchElementException("no such traveller");
        }
    }

    private void needPlan(int bits, int day, boolean both) {
        if ((bits & ~road.everybody()) != 0) {
            throw new IllegalArgumentException("bits of travellers that there are not");
        }
        if (both && !road.second) {
            throw new IllegalArgumentException("there is no second bridge");
        }
        needDay(day);
    }

    private Law lawAt(int toll) {
        if (toll < 0 || toll >= tolls || toll >= laws.length) {
            return freeLaw;
        }
        Law law = laws[toll];
        return law == null ? freeLaw : law;
    }

    private Law lawOf(int bridge) {
        return lawAt(at(records.tollOf, bridge));
    }

    private Records keptAt(int i) {
        return i >= 0 && i < kept.length ? kept[i] : null;
    }

    private int expense(int bridge, int k, int day, int minute) {
        return road.fare(lawOf(bridge), bridge, k, day, minute, false) + road.extra(bridge, k, minute);
    }

    private int bestMinute(int bridge, int k, int day) {
        int from = Math.max(road.opens, road.trait(k, FROM));
        int to = Math.min(road.closes, road.trait(k, TO));
        int bestOne = NONE;
        int least = 0;
        for (int minute = from; minute <= to && minute < MINUTES; minute++) {
            int costs = expense(bridge, k, day, minute);
            if (bestOne == NONE || costs < least) {
                bestOne = minute;
                least = costs;
            }
        }
        return bestOne;
    }

    private void planFor(int bits, int day, boolean both, Law first, Law second) {
        planner.begin(bits, both);
        planner.price(first, 0, day);
        if (both) {
            planner.price(second, 1, day);
        }
        planner.solve(Planner.LEFT_OUT);
        planner.seat();
    }

    private int mostOf(int day) {
        planner.begin(road.everybody(), false);
        planner.price(lawOf(0), 0, day);
        return planner.greatestTaking();
    }

    private void planDays(int day, int days) {
        for (int i = 0; i < days; i++) {
            planFor(road.everybody(), day + i, false, lawOf(0), freeLaw);
            months.keep(i);
        }
    }

    private static int takingsIndex(int bridge, int own, int other) {
        return (bridge * TOLLS + own) * TOLLS + other;
    }

    private void reckonTakings(int day) {
        for (int first = 0; first < tolls; first++) {
            for (int second = 0; second < tolls; second++) {
                planFor(road.everybody(), day, true, lawAt(first), lawAt(second));
                put(takings, takingsIndex(0, first, second), planner.earnedAt(0));
                put(takings, takingsIndex(1, second, first), planner.earnedAt(1));
            }
        }
    }

    /** The toll by which a bridge earns most against the other one's. */
    private int bestReply(int bridge, int other) {
        int found = 0;
        for (int toll = 1; toll < tolls; toll++) {
            if (at(takings, takingsIndex(bridge, toll, other)) > at(takings, takingsIndex(bridge, found, other))) {
                found = toll;
            }
        }
        return found;
    }

    private boolean paysLedger(Law law, int day, int height, int weight) {
        for (int i = 0; i < records.ledgerRows; i++) {
            int minute = at(records.ledgerMinutes, i);
            int altitude = road.altitudeAt(0, day, minute);
            if (road.charge(law, altitude, height, weight, day, minute) != at(records.ledgerCoins, i)) {
                return false;
            }
        }
        return true;
    }

    /** The tape, and the text that is read from its beginning. */
    private static final class Text {
        private final int[] bytes = new int[BYTES];
        private int fed;
        private int end;
        private int spot;
        private int fault;
        private int place = NONE;

        boolean hasRoom(int more) {
            return fed + more <= BYTES;
        }

        void add(int number) {
            for (int shift = 24; shift >= 0; shift -= 8) {
                put(bytes, fed, number >>> shift & 255);
                fed++;
            }
        }

        void open(int n) {
            end = n;
            spot = 0;
            fault = 0;
            place = NONE;
            fed = 0;
        }

        boolean fail(int kind, int where) {
            fault = kind;
            place = where;
            return false;
        }

        /** Where the next thing stands, behind the blanks; the end, if there is none. */
        int start() {
            while (spot >= 0 && spot < end && spot < bytes.length && bytes[spot] == ' ') {
                spot++;
            }
            return spot;
        }

        boolean more() {
            return start() < end;
        }

        boolean sign(int wanted) {
            int from = start();
            if (from >= end || at(bytes, from) != wanted) {
                return false;
            }
            spot = from + 1;
            return true;
        }

        boolean must(int wanted) {
            return sign(wanted) || fail(WRONG, spot);
        }

        boolean word(String wanted) {
            int from = start();
            int to = from;
            while (to < end && isLetter(at(bytes, to))) {
                to++;
            }
            if (to - from != wanted.length()) {
                return false;
            }
            for (int i = 0; i < wanted.length(); i++) {
                if (at(bytes, from + i) != wanted.charAt(i)) {
                    return false;
                }
            }
            spot = to;
            return true;
        }

        /** The number that stands here, or NONE when that is a fault. */
        int number(int least, int greatest) {
            int from = start();
            int value = 0;
            while (spot < end && isDigit(at(bytes, spot))) {
                // what is this great is too great anyhow: more digits must not make it wrap
                if (value < 100000) {
                    value = value * 10 + at(bytes, spot) - '0';
                }
                spot++;
            }
            if (spot == from) {
                fail(WRONG, from);
                return NONE;
            }
            if (value < least || value > greatest) {
                fail(NO_SUCH, from);
                return NONE;
            }
            return value;
        }

        private static boolean isLetter(int c) {
            return c >= 'a' && c <= 'z';
        }

        private static boolean isDigit(int c) {
            return c >= '0' && c <= '9';
        }
    }

    /** What a text tells of the bridge, its days and its travellers. */
    private static final class Road {
        private final int[] suns = new int[DAYS];
        private final int[] noons = new int[DAYS];
        private final int[] feasts = new int[DAYS];
        private final int[] people = new int[PEOPLE * TRAITS];
        private int travellers;
        private int falls;
        private int opens;
        private int closes;
        private int takes;
        private int clouds;
        private int lamp;
        private int early;
        private int way;
        private boolean shades;
        private boolean second;

        Road() {
            beUntold();
        }

        private void beUntold() {
            fillRow(suns, 0);
            fillRow(noons, 2700);
            fillRow(feasts, 0);
            fillRow(people, 0);
            travellers = 0;
            falls = 4;
            opens = 360;
            closes = 1080;
            takes = 30;
            clouds = 0;
            lamp = 0;
            early = 0;
            way = 0;
            shades = false;
            second = false;
        }

        void copy(Road other) {
            copyRow(other.suns, suns);
            copyRow(other.noons, noons);
            copyRow(other.feasts, feasts);
            copyRow(other.people, people);
            travellers = other.travellers;
            falls = other.falls;
            opens = other.opens;
            closes = other.closes;
            takes = other.takes;
            clouds = other.clouds;
            lamp = other.lamp;
            early = other.early;
            way = other.way;
            shades = other.shades;
            second = other.second;
        }

        /** A sun holds till the next day of which one is told. */
        void spreadSuns() {
            int noon = 2700;
            for (int day = 0; day < DAYS; day++) {
                if (at(suns, day) > 0) {
                    noon = at(suns, day);
                }
                put(noons, day, noon);
            }
        }

        int trait(int k, int what) {
            return at(people, k * TRAITS + what);
        }

        void setTrait(int k, int what, int value) {
            put(people, k * TRAITS + what, value);
        }

        int standing(int k) {
            return trait(k, HEIGHT) + trait(k, HAT);
        }

        int everybody() {
            return (1 << travellers) - 1;
        }

        boolean isOpen(int minute) {
            return minute >= opens && minute <= closes;
        }

        boolean mayCome(int k, int minute) {
            return minute >= trait(k, FROM) && minute <= trait(k, TO);
        }

        int slotCount() {
            return takes < 1 ? 0 : Math.min(SLOTS, (closes - opens) / takes);
        }

        int slotMinute(int slot) {
            return opens + slot * takes;
        }

        int altitudeAt(int bridge, int day, int minute) {
            int noon = bridge == 0 ? 720 : 720 - early;
            int high = at(noons, day) - falls * Math.abs(minute - noon);
            return high < 1 ? lamp : high;
        }

        /** What waiting and the way cost. */
        int extra(int bridge, int k, int minute) {
            return trait(k, COST) * (minute - trait(k, FROM)) + (bridge == 0 ? 0 : way);
        }

        int charge(Law law, int altitude, int height, int weight, int day, int minute) {
            law.learn(Law.SHADOW_FACT, shadowOf(height, altitude));
            law.learn(Law.HEIGHT_FACT, height);
            law.learn(Law.WEIGHT_FACT, weight);
            law.learn(Law.HOUR_FACT, minute / 60);
            law.learn(Law.DAY_FACT, day);
            law.learn(Law.FEAST_FACT, at(feasts, day));
            return law.sum();
        }

        int fare(Law law, int bridge, int k, int day, int minute, boolean dark) {
            int altitude = dark ? 0 : altitudeAt(bridge, day, minute);
            int upright = charge(law, altitude, standing(k), trait(k, WEIGHT), day, minute);
            int low = trait(k, LYING);
            if (low == 0) {
                return upright;
            }
            return Math.min(upright, charge(law, altitude, low, 2 * trait(k, WEIGHT), day, minute));
        }
    }

    /** Reads a bridge's text into a draft. */
    private static final class RoadReader {
        private static final int CLAUSES = 40;
        private static final int TRAVELLER = 3;

        private final Text text;
        private final Road road;

        RoadReader(Text text, Road road) {
            this.text = text;
            this.road = road;
        }

        boolean clauses() {
            road.beUntold();
            for (int told = 0; told <= CLAUSES && text.more(); told++) {
                if (!clause(told)) {
                    return false;
                }
            }
            road.spreadSuns();
            return true;
        }

        private boolean clause(int told) {
            int place = text.start();
            int word = clauseWord();
            if (word == NONE) {
                return text.fail(WRONG, place);
            }
            if (told >= CLAUSES || (word == TRAVELLER && road.travellers >= PEOPLE)) {
                return text.fail(TOO_MANY, place);
            }
            return parts(word) && text.must(';');
        }

        private int clauseWord() {
            if (text.word("sun")) { return 0; }
            if (text.word("falls")) { return 1; }
            if (text.word("keeper")) { return 2; }
            if (text.word("traveller")) { return TRAVELLER; }
            if (text.word("takes")) { return 4; }
            if (text.word("hat")) { return 5; }
            if (text.word("lies")) { return 6; }
            if (text.word("feast")) { return 7; }
            if (text.word("cloud")) { return 8; }
            if (text.word("second")) { return 9; }
            if (text.word("lamp")) { return 10; }
            return text.word("shade") ? 11 : NONE;
        }

        private boolean parts(int word) {
            switch (word) {
                case 0: return sun();
                case 2: return keeper();
                case TRAVELLER: return traits();
                case 5: return trait(HAT, 1, 99);
                case 6: return trait(LYING, 10, 400);
                case 9: return secondBridge();
                case 11:
                    road.shades = true;
                    return true;
                default: return single(word);
            }
        }

        private boolean single(int word) {
            int least = word == 7 || word == 8 ? 0 : 1;
            int n = text.number(least, greatest(word));
            if (n == NONE) {
                return false;
            }
            switch (word) {
                case 1:
                    road.falls = n;
                    break;
                case 4:
                    road.takes = n;
                    break;
                case 7:
                    put(road.feasts, n, 1);
                    break;
                case 8:
                    road.clouds = n;
                    break;
                default:
                    road.lamp = n;
                    break;
            }
            return true;
        }

        private static int greatest(int word) {
            switch (word) {
                case 1: return 9;
                case 4: return 60;
                case 7: return DAYS - 1;
                case 8: return 16;
                default: return 5400;
            }
        }

        private boolean sun() {
            int day = text.number(0, DAYS - 1);
            int noon = day == NONE ? NONE : text.number(60, 5400);
            if (noon == NONE) {
                return false;
            }
            put(road.suns, day, noon);
            return true;
        }

        private boolean keeper() {
            int from = text.number(0, MINUTES - 2);
            int to = from == NONE ? NONE : text.number(from + 1, MINUTES - 1);
            if (to == NONE) {
                return false;
            }
            road.opens = from;
            road.closes = to;
            return true;
        }

        private boolean traits() {
            int height = text.number(LOW, HIGH);
            int weight = height == NONE ? NONE : text.number(1, WEIGHTS);
            int from = weight == NONE ? NONE : text.number(0, MINUTES - 1);
            int to = from == NONE ? NONE : text.number(from, MINUTES - 1);
            int cost = to == NONE ? NONE : text.number(0, 9);
            if (cost == NONE) {
                return false;
            }
            int k = road.travellers;
            road.setTrait(k, HEIGHT, height);
            road.setTrait(k, WEIGHT, weight);
            road.setTrait(k, FROM, from);
            road.setTrait(k, TO, to);
            road.setTrait(k, COST, cost);
            road.travellers++;
            return true;
        }

        private boolean trait(int what, int least, int greatest) {
            int k = text.number(0, road.travellers - 1);
            int n = k == NONE ? NONE : text.number(least, greatest);
            if (n == NONE) {
                return false;
            }
            road.setTrait(k, what, n);
            return true;
        }

        private boolean secondBridge() {
            int early = text.number(0, 60);
            int way = early == NONE ? NONE : text.number(0, 99);
            if (way == NONE) {
                return false;
            }
            road.early = early;
            road.way = way;
            road.second = true;
            return true;
        }
    }

    /** A toll as steps over a stack: numbers stand for themselves, all else is below 0. */
    private static final class Law {
        private static final int FACTS = 6;
        private static final int SHADOW_FACT = -1;
        private static final int HEIGHT_FACT = -2;
        private static final int WEIGHT_FACT = -3;
        private static final int HOUR_FACT = -4;
        private static final int DAY_FACT = -5;
        private static final int FEAST_FACT = -6;
        private static final int ADD = -7;
        private static final int LESS = -8;
        private static final int TIMES = -9;
        private static final int BY = -10;
        private static final int BELOW = -11;
        private static final int ABOVE = -12;
        private static final int SAME = -13;
        private static final int NOT = -14;
        private static final int AND = -15;
        private static final int OR = -16;
        private static final int PAY = -17;
        private static final int PAY_IF = -18;

        private final int[] steps = new int[BYTES];
        private final int[] facts = new int[FACTS];
        private final int[] stack = new int[64];
        private int length;

        void empty() {
            length = 0;
        }

        void add(int step) {
            put(steps, length, step);
            length++;
        }

        void copy(Law other) {
            copyRow(other.steps, steps);
            length = other.length;
        }

        void beTwoLines(int a, int b) {
            empty();
            addLine(SHADOW_FACT, a, 100);
            addLine(WEIGHT_FACT, b, 10);
        }

        private void addLine(int fact, int times, int by) {
            add(fact);
            add(times);
            add(TIMES);
            add(by);
            add(BY);
            add(PAY);
        }

        void learn(int fact, int value) {
            put(facts, -1 - fact, value);
        }

        int sum() {
            long all = 0;
            int top = 0;
            for (int i = 0; i < length && i < steps.length; i++) {
                int step = steps[i];
                if (step >= -FACTS) {
                    put(stack, top, step >= 0 ? step : at(facts, -1 - step));
                    top++;
                } else if (step == NOT) {
                    put(stack, top - 1, 1 - at(stack, top - 1));
                } else if (step == PAY) {
                    top--;
                    all += at(stack, top);
                } else if (step == PAY_IF) {
                    top -= 2;
                    all += at(stack, top + 1) == 0 ? 0 : at(stack, top);
                } else {
                    top--;
                    put(stack, top - 1, joined(step, at(stack, top - 1), at(stack, top)));
                }
            }
            return (int) Math.max(0L, Math.min((long) COINS, all));
        }

        private static int joined(int step, int x, int y) {
            switch (step) {
                case ADD: return x + y;
                case LESS: return x - y;
                case TIMES: return x * y;
                case BY: return y == 0 ? 0 : x / y;
                case BELOW: return x < y ? 1 : 0;
                case ABOVE: return x > y ? 1 : 0;
                case SAME: return x == y ? 1 : 0;
                case AND: return x & y;
                default: return x | y;
            }
        }
    }

    /** Reads a toll's text into a draft. */
    private static final class LawReader {
        private static final int OPEN = 6;

        private final Text text;
        private final Law law;

        LawReader(Text text, Law law) {
            this.text = text;
            this.law = law;
        }

        boolean rows() {
            law.empty();
            for (int row = 0; row <= ROWS && text.more(); row++) {
                int place = text.start();
                if (!text.word("pay")) {
                    return text.fail(WRONG, place);
                }
                if (row >= ROWS) {
                    return text.fail(TOO_MANY, place);
                }
                if (!number(0)) {
                    return false;
                }
                boolean bound = text.word("if");
                if (bound && !condition(0)) {
                    return false;
                }
                law.add(bound ? Law.PAY_IF : Law.PAY);
                if (!text.must(';')) {
                    return false;
                }
            }
            return true;
        }

        /** C of the document, with its D: "or" and "and" alike from the left. */
        private boolean condition(int open) {
            boolean behindOr = false;
            boolean behindAnd = false;
            for (int i = 0; i <= BYTES; i++) {
                if (!clause(open)) {
                    return false;
                }
                if (behindAnd) {
                    law.add(Law.AND);
                }
                behindAnd = text.word("and");
                if (!behindAnd) {
                    if (behindOr) {
                        law.add(Law.OR);
                    }
                    behindOr = text.word("or");
                    if (!behindOr) {
                        return true;
                    }
                }
            }
            return false;
        }

        /** B of the document. */
        private boolean clause(int open) {
            int place = text.start();
            if (text.word("not")) {
                if (open >= OPEN) {
                    return text.fail(TOO_MANY, place);
                }
                if (!clause(open + 1)) {
                    return false;
                }
                law.add(Law.NOT);
                return true;
            }
            if (text.sign('[')) {
                if (open >= OPEN) {
                    return text.fail(TOO_MANY, place);
                }
                return condition(open + 1) && text.must(']');
            }
            if (!number(open)) {
                return false;
            }
            int step = text.sign('<') ? Law.BELOW : text.sign('>') ? Law.ABOVE : Law.SAME;
            if (step == Law.SAME && !text.must('=')) {
                return false;
            }
            if (!number(open)) {
                return false;
            }
            law.add(step);
            return true;
        }

        /** E of the document, with its T: a product is joined to the sum ahead when it ends. */
        private boolean number(int open) {
            int sum = 0;
            int product = 0;
            for (int i = 0; i <= BYTES; i++) {
                if (!unit(open)) {
                    return false;
                }
                if (product != 0) {
                    law.add(product);
                }
                product = text.sign('*') ? Law.TIMES : text.sign('/') ? Law.BY : 0;
                if (product == 0) {
                    if (sum != 0) {
                        law.add(sum);
                    }
                    sum = text.sign('+') ? Law.ADD : text.sign('-') ? Law.LESS : 0;
                    if (sum == 0) {
                        return true;
                    }
                }
            }
            return false;
        }

        /** U of the document. */
        private boolean unit(int open) {
            int place = text.start();
            if (text.sign('(')) {
                if (open >= OPEN) {
                    return text.fail(TOO_MANY, place);
                }
                return number(open + 1) && text.must(')');
            }
            int fact = text.word("shadow") ? Law.SHADOW_FACT : text.word("height") ? Law.HEIGHT_FACT
                : text.word("weight") ? Law.WEIGHT_FACT : text.word("hour") ? Law.HOUR_FACT
                : text.word("day") ? Law.DAY_FACT : text.word("feast") ? Law.FEAST_FACT : 0;
            int step = fact == 0 ? text.number(0, COINS) : fact;
            if (fact == 0 && step == NONE) {
                return false;
            }
            law.add(step);
            return true;
        }
    }

    /** Finds the best plan: backwards over the slots, by who has crossed and who went right ahead. */
    private static final class Planner {
        private static final int SETS = 1 << PEOPLE;
        private static final int NOBODY = PEOPLE;
        private static final int LAST = PEOPLE + 1;
        /** More than eight can cost together: so the fewest left out come ahead of all costs. */
        private static final int LEFT_OUT = 1 << 20;

        private final Road road;
        private final int[] comers = new int[2 * SLOTS];
        private final int[] clear = new int[2 * SLOTS * PEOPLE];
        private final int[] dark = new int[2 * SLOTS * PEOPLE];
        private final int[] extras = new int[2 * SLOTS * PEOPLE];
        private final int[] least = new int[(2 * SLOTS + 1) * SETS * LAST];
        private final int[] holders = new int[2 * SLOTS];
        private final int[] paid = new int[2 * SLOTS];
        private final int[] earned = new int[2];
        private final int[] order = new int[PEOPLE];
        private final int[] lower = new int[PEOPLE];
        private final int[] rests = new int[PEOPLE];
        private final int[] lowers = new int[PEOPLE + 1];
        private final int[] tallers = new int[PEOPLE + 1];
        private int bits;
        private int each;
        private int all;
        private int leftOut;
        private int costs;
        private int jam;

        Planner(Road road) {
            this.road = road;
        }

        void begin(int whose, boolean both) {
            bits = whose;
            each = road.slotCount();
            all = both ? 2 * each : each;
            rank();
        }

        /** The travellers from the lowest on, and how many are lower than each. */
        private void rank() {
            for (int k = 0; k < PEOPLE; k++) {
                int lowerOnes = 0;
                int ahead = 0;
                for (int other = 0; other < PEOPLE; other++) {
                    if (road.standing(other) < road.standing(k)) {
                        lowerOnes++;
                    } else if (other < k && road.standing(other) == road.standing(k)) {
                        ahead++;
                    }
                }
                put(lower, k, lowerOnes);
                put(order, lowerOnes + ahead, k);
            }
        }

        void price(Law law, int bridge, int day) {
            for (int slot = 0; slot < each; slot++) {
                int minute = road.slotMinute(slot);
                int place = bridge * each + slot;
                int who = 0;
                for (int k = 0; k < PEOPLE; k++) {
                    if ((bits >> k & 1) == 1 && road.mayCome(k, minute)) {
                        who |= 1 << k;
                        put(clear, place * PEOPLE + k, road.fare(law, bridge, k, day, minute, false));
                        put(dark, place * PEOPLE + k, road.fare(law, bridge, k, day, minute, true));
                        put(extras, place * PEOPLE + k, road.extra(bridge, k, minute));
                    }
                }
                put(comers, place, who);
            }
        }

        /** The same search for the least finds the most, when coins count below 0 and nothing else counts. */
        int greatestTaking() {
            for (int i = 0; i < all * PEOPLE; i++) {
                put(clear, i, -at(clear, i));
                put(dark, i, -at(dark, i));
                put(extras, i, 0);
            }
            solve(0);
            return -at(least, index(0, 0, NOBODY));
        }

        /** Each one left out costs the penalty. */
        void solve(int penalty) {
            for (int gone = 0; gone < SETS; gone++) {
                put(least, index(all, gone, NOBODY), penalty * Integer.bitCount(bits & ~gone));
            }
            for (int slot = all - 1; slot >= 0; slot--) {
                for (int gone = 0; gone < SETS; gone++) {
                    if ((gone & ~bits) == 0) {
                        solveFrom(slot, gone);
                    }
                }
            }
        }

        private void solveFrom(int slot, int gone) {
            weigh(slot, gone);
            put(least, index(slot, gone, NOBODY), at(tallers, 0));
            if (!shadeReaches(slot)) {
                return;
            }
            for (int last = 0; last < PEOPLE; last++) {
                if ((gone >> last & 1) == 1) {
                    int n = at(lower, last);
                    put(least, index(slot, gone, last), Math.min(at(lowers, n), at(tallers, n)));
                }
            }
        }

        /** The least costs when this slot goes to one of the n lowest, all shaded, or to one of the others, in the light. */
        private void weigh(int slot, int gone) {
            int who = at(comers, slot) & ~gone;
            int withNobody = at(least, index(slot + 1, gone, NOBODY));
            put(lowers, 0, withNobody);
            for (int n = 0; n < PEOPLE; n++) {
                int k = at(order, n);
                int found = at(lowers, n);
                if ((who >> k & 1) == 1) {
                    put(rests, k, restBehind(slot, gone, k));
                    found = Math.min(found, at(dark, slot * PEOPLE + k) + at(rests, k));
                }
                put(lowers, n + 1, found);
            }
            put(tallers, PEOPLE, withNobody);
            for (int n = PEOPLE - 1; n >= 0; n--) {
                int k = at(order, n);
                int found = at(tallers, n + 1);
                if ((who >> k & 1) == 1) {
                    found = Math.min(found, at(clear, slot * PEOPLE + k) + at(rests, k));
                }
                put(tallers, n, found);
            }
        }

        /** What all costs but the coins in this slot, when k takes it. */
        private int restBehind(int slot, int gone, int k) {
            int behind = shadeReaches(slot + 1) ? k : NOBODY;
            return at(extras, slot * PEOPLE + k) + at(least, index(slot + 1, gone | 1 << k, behind));
        }

        private int coinsIn(int slot, int k, int last) {
            boolean inShade = last != NOBODY && road.standing(last) > road.standing(k);
            return inShade ? at(dark, slot * PEOPLE + k) : at(clear, slot * PEOPLE + k);
        }

        /** Nobody's shade falls on the first slot of a bridge. */
        private boolean shadeReaches(int slot) {
            return road.shades && slot != 0 && slot != each && slot < all;
        }

        private static int index(int slot, int gone, int last) {
            return (slot * SETS + gone) * LAST + last;
        }

        /** Walks the solved slots forwards; of equals the least traveller sits first, nobody last. */
        void seat() {
            int gone = 0;
            int last = NOBODY;
            forgetSums();
            for (int slot = 0; slot < all; slot++) {
                last = shadeReaches(slot) ? last : NOBODY;
                int k = holderOf(slot, gone, last);
                put(holders, slot, k);
                if (k != NOBODY) {
                    put(paid, slot, coinsIn(slot, k, last));
                    addUp(slot, k);
                    gone |= 1 << k;
                }
                last = k;
            }
            leftOut = Integer.bitCount(bits & ~gone);
        }

        private int holderOf(int slot, int gone, int last) {
            int wanted = at(least, index(slot, gone, last));
            int who = at(comers, slot) & ~gone;
            for (int k = 0; k < PEOPLE; k++) {
                if ((who >> k & 1) == 1 && coinsIn(slot, k, last) + restBehind(slot, gone, k) == wanted) {
                    return k;
                }
            }
            return NOBODY;
        }

        private void forgetSums() {
            costs = 0;
            fillRow(earned, 0);
            jam = 0;
        }

        private void addUp(int slot, int k) {
            int coins = at(paid, slot);
            costs += coins + at(extras, slot * PEOPLE + k);
            int bridge = slot < each ? 0 : 1;
            put(earned, bridge, at(earned, bridge) + coins);
            jam = Math.max(jam, minuteOf(slot) - road.trait(k, FROM));
        }

        private int minuteOf(int slot) {
            return road.slotMinute(slot < each ? slot : slot - each);
        }

        int earnedAt(int bridge) {
            return at(earned, bridge);
        }

        int slotOf(int k) {
            for (int slot = 0; slot < all; slot++) {
                if (at(holders, slot) == k) {
                    return slot < each ? slot : 100 + slot - each;
                }
            }
            return NONE;
        }
    }

    /** The best plans of days in a row, paid under skies. */
    private static final class Season {
        private final Road road;
        private final Planner planner;
        private final int[] hours = new int[DAYS * PEOPLE];
        private final int[] clear = new int[DAYS * PEOPLE];
        private final int[] clouded = new int[DAYS * PEOPLE];
        private int seed;

        Season(Road road, Planner planner) {
            this.road = road;
            this.planner = planner;
        }

        int skyOf(int begin) {
            seed = begin;
            return nextSky();
        }

        private int nextSky() {
            int sky = 0;
            for (int hour = 0; hour < HOURS; hour++) {
                seed = seed * 1103515245 + 12345;
                if ((seed >> 16 & 0x7fff) % 16 < road.clouds) {
                    sky |= 1 << hour;
                }
            }
            return sky;
        }

        /** Keeps the plan that the planner holds as that of the i-th day; who is left out pays nothing. */
        void keep(int i) {
            for (int k = 0; k < PEOPLE; k++) {
                int place = i * PEOPLE + k;
                int slot = planner.slotOf(k);
                boolean crosses = slot != NONE;
                put(hours, place, crosses ? road.slotMinute(slot) / 60 : 0);
                put(clear, place, crosses ? at(planner.paid, slot) : 0);
                put(clouded, place, crosses ? at(planner.dark, slot * PEOPLE + k) : 0);
            }
        }

        int takenUnder(int days, int begin) {
            int coins = 0;
            seed = begin;
            for (int i = 0; i < days; i++) {
                int sky = nextSky();
                for (int k = 0; k < PEOPLE; k++) {
                    int place = i * PEOPLE + k;
                    boolean cloudy = (sky >> at(hours, place) & 1) == 1;
                    coins += cloudy ? at(clouded, place) : at(clear, place);
                }
            }
            return coins;
        }
    }

    /** What the keeper has: an image is a copy of it. */
    private static final class Records {
        private final int[] tollOf = new int[2];
        private final int[] crossDays = new int[CROSSINGS];
        private final int[] crossCoins = new int[CROSSINGS];
        private final int[] written = new int[DAYS];
        private final int[] ledgerMinutes = new int[ROWS];
        private final int[] ledgerCoins = new int[ROWS];
        private int crossings;
        private int ledgerRows;

        Records() {
            clear();
        }

        private void clear() {
            fillRow(tollOf, 0);
            fillRow(written, NONE);
            crossings = 0;
            ledgerRows = 0;
        }

        void copy(Records other) {
            copyRow(other.tollOf, tollOf);
            copyRow(other.crossDays, crossDays);
            copyRow(other.crossCoins, crossCoins);
            copyRow(other.written, written);
            copyRow(other.ledgerMinutes, ledgerMinutes);
            copyRow(other.ledgerCoins, ledgerCoins);
            crossings = other.crossings;
            ledgerRows = other.ledgerRows;
        }

        void addCrossing(int day, int coins) {
            put(crossDays, crossings, day);
            put(crossCoins, crossings, coins);
            crossings++;
        }

        void addLedgerRow(int minute, int coins) {
            put(ledgerMinutes, ledgerRows, minute);
            put(ledgerCoins, ledgerRows, coins);
            ledgerRows++;
        }

        /** Coins of the crossings of a day, or of all days for NONE. */
        int sum(int day) {
            int coins = 0;
            for (int i = 0; i < crossings; i++) {
                if (day == NONE || at(crossDays, i) == day) {
                    coins += at(crossCoins, i);
                }
            }
            return coins;
        }

        int daysWritten() {
            int days = 0;
            for (int day = 0; day < DAYS; day++) {
                if (at(written, day) != NONE) {
                    days++;
                }
            }
            return days;
        }
    }
}
