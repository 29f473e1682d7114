import java.util.NoSuchElementException;

/** Calls that are refused: each sentence of the promises that names an exception, at its bounds; and nothing changes by them. */
public final class CallEdgeTest {
    private static final Checks C = new Checks("CallEdgeTest");
    private static final Class<IllegalArgumentException> ARGUMENT = IllegalArgumentException.class;
    private static final Class<NoSuchElementException> ELEMENT = NoSuchElementException.class;
    private static final Class<IndexOutOfBoundsException> INDEX = IndexOutOfBoundsException.class;
    private static final Class<IllegalStateException> STATE = IllegalStateException.class;

    private static final String PEOPLE = "traveller 100 10 600 840 1;traveller 200 20 660 720 2;hat 0 9;lies 1 40;";
    private static final String ROAD = "sun 3 3000;falls 2;keeper 600 840;takes 60;cloud 5;lamp 900;feast 3;shade;" + PEOPLE;
    private static final String SAME = snapshot(rich());

    /** A call with one of its numbers open. */
    private interface Use {
        int of(ShadowTolls x, int n);
    }

    public static void main(String[] args) {
        whats();
        light();
        travellers();
        plans();
        keeper();
        laws();
        ledgers();
        skies();
        others();
        order();
        lastCall();
        C.end();
    }

    /** An object in which all that a call could change is told: the image's records are not those of now. */
    private static ShadowTolls rich() {
        ShadowTolls x = Checks.made(ROAD + "second 30 7;", "pay shadow;pay feast*3;", "pay weight;");
        x.law(0, 1);
        x.cross(0, 0, 3, 700);
        x.write(3, 77);
        x.ledger(700, 10);
        x.image();
        x.law(1, 1);
        x.cross(1, 1, 4, 700);
        x.write(5, 0);
        x.ledger(720, 20);
        Checks.bridge(x, "rain;");
        x.feed(1, 2, 3, 4, 5);
        return x;
    }

    private static ShadowTolls lone() {
        return Checks.made(ROAD, "pay shadow;");
    }

    private static String snapshot(ShadowTolls x) {
        StringBuilder s = new StringBuilder();
        for (int i = 0; i < 10; i++) {
            s.append(x.told(i)).append(' ');
        }
        for (int i = 0; i < 5; i++) {
            s.append(x.count(i)).append(' ').append(x.plan(3, 3, true, i)).append(' ');
        }
        for (int k = 0; k < 2; k++) {
            for (int what = 0; what < 7; what++) {
                s.append(x.traveller(k, what)).append(' ');
            }
            s.append(x.coins(k, 0, 3, 700, false)).append(' ').append(x.slot(3, 3, true, k)).append(' ');
        }
        for (int day = 2; day < 6; day++) {
            s.append(x.day(day, 0)).append(' ').append(x.day(day, 1)).append(' ').append(x.taken(day)).append(' ').append(x.stolen(day)).append(' ');
        }
        s.append(x.fault()).append(' ').append(x.taken(-1)).append(' ').append(x.fits(0, 10, 0)).append(' ').append(x.fits(1, 10, 0));
        s.append(x.sky(5)).append(' ').append(x.season(0, 3, 5)).append(' ').append(x.war(3, 1, 0)).append(' ').append(x.much());
        s.append(' ').append(x.restore()).append(' ').append(x.taken(-1)).append(' ').append(x.law(1, 0)).append(' ').append(x.law(0, 0));
        return s.append(' ').append(x.undo()).append(' ').append(x.undo()).append(' ').append(x.forget()).toString();
    }

    private static void stays(String what, ShadowTolls x) {
        String now = snapshot(x);
        C.same(what + " leaves all as it was: " + now + ", was " + SAME, now.equals(SAME) ? 1 : 0, 1);
    }

    private static void refused(String what, int n, Class<? extends RuntimeException> due, Use use) {
        ShadowTolls x = rich();
        C.refused(what + " " + n, due, () -> use.of(x, n));
        stays(what + " " + n, x);
    }

    /** From least to greatest the call answers; beyond them it is refused, and changes nothing. */
    private static void within(String what, int least, int greatest, Class<? extends RuntimeException> due, Use use) {
        for (int n : new int[] {least, greatest}) {
            C.same(what + " " + n + " is refused", isRefused(use, n) ? 1 : 0, 0);
        }
        refused(what, least - 1, due, use);
        refused(what, greatest + 1, due, use);
        refused(what, Integer.MIN_VALUE, due, use);
        refused(what, Integer.MAX_VALUE, due, use);
    }

    private static boolean isRefused(Use use, int n) {
        try {
            use.of(rich(), n);
            return false;
        } catch (RuntimeException e) {
            return true;
        }
    }

    private static void days(String sentence, Use use) {
        C.edge(sentence, () -> within("day", 0, 29, ARGUMENT, use));
    }

    private static void minutes(String sentence, Use use) {
        C.edge(sentence, () -> within("minute", 0, 1439, ARGUMENT, use));
    }

    private static void whats(String sentence, int greatest, Use use) {
        C.edge(sentence, () -> within("what", 0, greatest, ARGUMENT, use));
    }

    private static void who(String sentence, Use use) {
        C.edge(sentence, () -> {
            within("traveller", 0, 1, ELEMENT, use);
            ShadowTolls nobody = Checks.made("second 0 0;", "pay 1;");
            C.refused("traveller 0 of none", ELEMENT, () -> use.of(nobody, 0));
        });
    }

    /** At bridge 1 without a second the call is refused as at any other. */
    private static void where(String sentence, Use use) {
        C.edge(sentence, () -> {
            within("bridge", 0, 1, INDEX, use);
            ShadowTolls x = lone();
            use.of(x, 0);
            C.refused("bridge 1 without a second", INDEX, () -> use.of(x, 1));
            C.refused("bridge 2 without a second", INDEX, () -> use.of(x, 2));
            C.refused("bridge -1 without a second", INDEX, () -> use.of(x, -1));
        });
    }

    private static void whats() {
        whats("Promise 6: IllegalArgumentException: another what", 9, (x, n) -> x.told(n));
        whats("Promise 7: another what (so below)", 6, (x, n) -> x.traveller(0, n));
        whats("Promise 8: another what (so below)", 1, (x, n) -> x.day(0, n));
        whats("Promise 13: another what (so below)", 1, (x, n) -> x.best(0, 0, 0, n));
        whats("Promise 15: IllegalArgumentException: what", 4, (x, n) -> x.plan(3, 0, true, n));
        whats("Promise 25: IllegalArgumentException: what", 2, (x, n) -> x.lines(0, 0, n));
        whats("Promise 26: IllegalArgumentException: what", 1, (x, n) -> x.war(0, 0, n));
        whats("Promise 29: IllegalArgumentException: what", 1, (x, n) -> x.fits(0, 1, n));
        whats("Promise 32: IllegalArgumentException: also what", 1, (x, n) -> x.span(0, 1, 1, 1, n));
    }

    private static void light() {
        days("Promise 8: IllegalArgumentException: no such DAY, noon", (x, n) -> x.day(n, 0));
        days("Promise 8: IllegalArgumentException: no such DAY, feast", (x, n) -> x.day(n, 1));
        where("Promise 9: IndexOutOfBoundsException: no such bridge (0; 1, if there is a second)", (x, n) -> x.altitude(n, 0, 0));
        days("Promise 9: no such DAY (so below)", (x, n) -> x.altitude(1, n, 0));
        minutes("Promise 9: IllegalArgumentException: no such MINUTE", (x, n) -> x.altitude(1, 0, n));
        where("Promise 10: no such bridge (so below)", (x, n) -> x.shadow(n, 0, 0, 1));
        days("Promise 10: no such DAY (so below)", (x, n) -> x.shadow(0, n, 0, 1));
        minutes("Promise 10: no such MINUTE (so below)", (x, n) -> x.shadow(0, 0, n, 1));
        C.edge("Promise 10: IllegalArgumentException: also the HEIGHT (1 to 999)",
            () -> within("height", 1, 999, ARGUMENT, (x, n) -> x.shadow(0, 0, 0, n)));
    }

    private static void travellers() {
        who("Promise 7: NoSuchElementException: no such TRAVELLER", (x, n) -> x.traveller(n, 0));
        where("Promise 12: no such bridge (so below)", (x, n) -> x.coins(n, 0, 0, 0, false));
        who("Promise 12: no such TRAVELLER (so below)", (x, n) -> x.coins(1, n, 0, 0, true));
        days("Promise 12: no such DAY (so below)", (x, n) -> x.coins(0, 0, n, 0, false));
        minutes("Promise 12: no such MINUTE (so below)", (x, n) -> x.coins(0, 0, 0, n, true));
        where("Promise 13: no such bridge (so below)", (x, n) -> x.best(n, 0, 0, 0));
        who("Promise 13: no such TRAVELLER (so below)", (x, n) -> x.best(0, n, 0, 1));
        days("Promise 13: no such DAY (so below)", (x, n) -> x.best(1, 0, n, 0));
        where("Promise 14: no such bridge (so below)", (x, n) -> x.week(n, 0));
        who("Promise 14: no such TRAVELLER (so below)", (x, n) -> x.week(1, n));
        C.edge("Promise 7: no such TRAVELLER, eight at most", () -> {
            ShadowTolls x = Checks.made("traveller 50 1 0 0 0;".repeat(8));
            C.same("the eighth", x.traveller(7, 0), 50);
            C.refused("a ninth", ELEMENT, () -> x.traveller(8, 0));
        });
    }

    private static void plans() {
        C.edge("Promise 15: IllegalArgumentException: bits of none that are", () -> {
            within("bits", 0, 3, ARGUMENT, (x, n) -> x.plan(n, 0, true, 0));
            within("bits", 0, 3, ARGUMENT, (x, n) -> x.plan(n, 0, false, 0));
            within("bits", 0, 255, ARGUMENT, (x, n) -> Checks.made("traveller 50 1 0 0 0;".repeat(8)).plan(n, 0, false, 0));
            ShadowTolls nobody = new ShadowTolls();
            C.same("none of none", nobody.plan(0, 0, false, 0), 0);
            C.refused("one of none", ARGUMENT, () -> nobody.plan(1, 0, false, 0));
            refused("a bit beside others", 5, ARGUMENT, (x, n) -> x.plan(n, 0, false, 0));
        });
        C.edge("Promise 15: IllegalArgumentException: both without a second", () -> {
            C.refused("both", ARGUMENT, () -> lone().plan(3, 0, true, 0));
            C.refused("both, nobody", ARGUMENT, () -> lone().plan(0, 0, true, 0));
            C.same("the first alone", lone().plan(3, 0, false, 0), 0);
            C.same("both with a second", rich().plan(3, 0, true, 0), 0);
        });
        days("Promise 15: IllegalArgumentException: DAY", (x, n) -> x.plan(3, n, true, 0));
        C.edge("Promise 16: bits of none that are, as of plan", () -> within("bits", 0, 3, ARGUMENT, (x, n) -> x.slot(n, 0, true, 0)));
        C.edge("Promise 16: both without a second, as of plan", () -> {
            C.refused("both", ARGUMENT, () -> lone().slot(3, 0, true, 0));
            C.same("the first alone", lone().slot(1, 0, false, 0) >= 0 ? 1 : 0, 1);
        });
        days("Promise 16: no such DAY (so below)", (x, n) -> x.slot(3, n, true, 0));
        who("Promise 16: no such TRAVELLER (so below)", (x, n) -> x.slot(0, 0, true, n));
        days("Promise 18: no such DAY (so below)", (x, n) -> x.most(n));
    }

    private static void keeper() {
        where("Promise 19: no such bridge (so below)", (x, n) -> x.cross(n, 0, 0, 700));
        who("Promise 19: no such TRAVELLER (so below)", (x, n) -> x.cross(0, n, 0, 700));
        days("Promise 19: no such DAY (so below)", (x, n) -> x.cross(0, 0, n, 700));
        minutes("Promise 19: no such MINUTE (so below)", (x, n) -> x.cross(0, 0, 0, n));
        C.edge("Promise 21: no such DAY (so below) (NONE: of all)", () -> within("day", -1, 29, ARGUMENT, (x, n) -> x.taken(n)));
        days("Promise 22: no such DAY (so below)", (x, n) -> x.write(n, 5));
        days("Promise 22: no such DAY (so below), nothing any more", (x, n) -> x.write(n, -1));
        C.edge("Promise 22: IllegalArgumentException: also the number", () -> within("coins", -1, 99999, ARGUMENT, (x, n) -> x.write(3, n)));
        days("Promise 23: no such DAY (so below)", (x, n) -> x.stolen(n));
    }

    private static void laws() {
        where("Promise 11: no such bridge (so below)", (x, n) -> x.law(n, 0));
        C.edge("Promise 11: IllegalArgumentException: no such TOLL", () -> {
            within("toll", 0, 1, ARGUMENT, (x, n) -> x.law(0, n));
            within("toll", 0, 1, ARGUMENT, (x, n) -> x.law(1, n));
            ShadowTolls none = Checks.made("second 0 0;");
            C.refused("toll 0 of none", ARGUMENT, () -> none.law(0, 0));
            C.refused("toll 0 of none, at the second", ARGUMENT, () -> none.law(1, 0));
            C.refused("toll -1 of none", ARGUMENT, () -> none.law(0, -1));
            ShadowTolls four = Checks.made("", "", "", "", "");
            C.same("the fourth of four", four.law(0, 3), 0);
            C.refused("a fifth of four", ARGUMENT, () -> four.law(0, 4));
            C.same("it stays", four.law(0, 0), 3);
        });
        days("Promise 25: IllegalArgumentException: DAY", (x, n) -> x.lines(n, 0, 0));
        C.edge("Promise 25: IllegalArgumentException: j (0 to 9)", () -> within("j", 0, 9, ARGUMENT, (x, n) -> x.lines(0, n, 0)));
        days("Promise 26: IllegalArgumentException: DAY", (x, n) -> x.war(n, 1, 0));
        C.edge("Promise 26: IllegalArgumentException: turns (0 to 20)", () -> {
            within("turns", 0, 20, ARGUMENT, (x, n) -> x.war(0, n, 0));
            within("turns", 0, 20, ARGUMENT, (x, n) -> x.war(0, n, 1));
        });
        C.edge("Promise 26: IllegalStateException: there is no second bridge", () -> {
            C.refused("no second", STATE, () -> lone().war(0, 0, 0));
            C.refused("no second", STATE, () -> lone().war(29, 20, 1));
        });
        C.edge("Promise 26: IllegalStateException: or no TOLL", () -> {
            C.refused("no toll", STATE, () -> Checks.made(ROAD + "second 0 0;").war(0, 0, 0));
            C.same("one toll", Checks.made(ROAD + "second 0 0;", "").war(0, 0, 0), 0);
            C.refused("neither", STATE, () -> new ShadowTolls().war(0, 1, 1));
        });
    }

    private static void ledgers() {
        minutes("Promise 27: IllegalArgumentException: MINUTE", (x, n) -> x.ledger(n, 0));
        C.edge("Promise 27: IllegalArgumentException: COINS (0 to 9,999)", () -> within("coins", 0, 9999, ARGUMENT, (x, n) -> x.ledger(0, n)));
        C.edge("Promise 29: IllegalArgumentException: the TOLL", () -> {
            within("toll", 0, 1, ARGUMENT, (x, n) -> x.fits(n, 1, 0));
            C.refused("toll 0 of none", ARGUMENT, () -> Checks.made(ROAD).fits(0, 1, 0));
        });
        C.edge("Promise 29: WEIGHT (1 to 999)", () -> within("weight", 1, 999, ARGUMENT, (x, n) -> x.fits(0, n, 1)));
    }

    private static void skies() {
        days("Promise 31: IllegalArgumentException: DAY", (x, n) -> x.season(n, 1, 7));
        C.edge("Promise 31: so many (no more than to DAY 29)", () -> {
            within("days from 0 on", 1, 30, ARGUMENT, (x, n) -> x.season(0, n, 7));
            within("days from 14 on", 1, 16, ARGUMENT, (x, n) -> x.season(14, n, 7));
            within("days from 29 on", 1, 1, ARGUMENT, (x, n) -> x.season(29, n, 7));
        });
        days("Promise 32: no such DAY (so below)", (x, n) -> x.span(n, 1, 7, 1, 0));
        C.edge("Promise 32: so many, as of season", () -> {
            within("days from 0 on", 1, 30, ARGUMENT, (x, n) -> x.span(0, n, 7, 2, 0));
            within("days from 14 on", 1, 16, ARGUMENT, (x, n) -> x.span(14, n, 7, 2, 1));
            within("days from 29 on", 1, 1, ARGUMENT, (x, n) -> x.span(29, n, 7, 2, 0));
        });
        C.edge("Promise 32: IllegalArgumentException: also m", () -> within("m", 1, 50, ARGUMENT, (x, n) -> x.span(0, 1, 7, n, 0)));
        C.edge("Promise 31: a SEED is any number", () -> {
            for (int seed : new int[] {Integer.MIN_VALUE, -1, 0, Integer.MAX_VALUE}) {
                ShadowTolls x = rich();
                x.sky(seed);
                x.season(0, 30, seed);
                x.span(0, 2, seed, 50, 1);
                stays("seed " + seed, x);
            }
        });
    }

    private static void others() {
        C.edge("Promise 35: NONE for others", () -> {
            for (int what : new int[] {-1, 5, 6, Integer.MIN_VALUE, Integer.MAX_VALUE}) {
                ShadowTolls x = rich();
                C.same("count " + what, x.count(what), -1);
                stays("count " + what, x);
            }
        });
    }

    /** Where several exceptions fit, the one that the face names first. */
    private static void order() {
        C.edge("The public face: throws NoSuchElementException, IllegalArgumentException", () -> {
            C.refused("traveller", ELEMENT, () -> rich().traveller(2, 7));
            C.refused("slot, bits", ELEMENT, () -> rich().slot(4, 0, true, 2));
            C.refused("slot, both", ELEMENT, () -> lone().slot(3, 0, true, 2));
            C.refused("slot, day", ELEMENT, () -> rich().slot(3, 30, true, -1));
        });
        C.edge("The public face: throws IndexOutOfBoundsException, IllegalArgumentException", () -> {
            C.refused("altitude, day", INDEX, () -> rich().altitude(2, 30, 0));
            C.refused("altitude, minute", INDEX, () -> rich().altitude(-1, 0, 1440));
            C.refused("shadow, height", INDEX, () -> rich().shadow(2, 0, 0, 0));
            C.refused("law, toll", INDEX, () -> rich().law(2, 2));
        });
        C.edge("The public face: throws IndexOutOfBoundsException, NoSuchElementException, IllegalArgumentException", () -> {
            C.refused("coins, all", INDEX, () -> rich().coins(2, 2, 30, 1440, false));
            C.refused("coins, traveller and day", ELEMENT, () -> rich().coins(1, 2, 30, 0, false));
            C.refused("coins, traveller and minute", ELEMENT, () -> rich().coins(1, -1, 0, -1, false));
            C.refused("best, all", INDEX, () -> rich().best(2, 2, 30, 2));
            C.refused("best, traveller and what", ELEMENT, () -> rich().best(1, 2, 0, 2));
            C.refused("week, both", INDEX, () -> rich().week(2, 2));
            C.refused("cross, all", INDEX, () -> rich().cross(2, 2, 30, 1440));
            C.refused("cross, traveller and minute", ELEMENT, () -> rich().cross(1, 2, 0, 1440));
        });
        C.edge("The public face: throws IllegalArgumentException, IllegalStateException", () -> {
            C.refused("war, day", ARGUMENT, () -> lone().war(30, 0, 0));
            C.refused("war, turns", ARGUMENT, () -> new ShadowTolls().war(0, 21, 0));
            C.refused("war, what", ARGUMENT, () -> new ShadowTolls().war(0, 0, 2));
        });
    }

    private static void lastCall() {
        C.edge("An object is used for at most 512 calls after it has been made", () -> {
            ShadowTolls x = new ShadowTolls();
            Checks.toll(x, "pay shadow;");
            int calls = 2;
            for (int[] five : Checks.feeds(ROAD)) {
                x.feed(five[0], five[1], five[2], five[3], five[4]);
                calls++;
            }
            C.same("travellers", x.bridge(ROAD.length()), 2);
            calls++;
            while (calls < 511) {
                C.refused("call " + calls, STATE, () -> x.war(0, 0, 0));
                calls++;
            }
            int due = lone().season(0, 30, 7);
            C.same("the 512th is answered as the first", x.season(0, 30, 7), due);
            C.same("and somebody pays", due > 0 ? 1 : 0, 1);
        });
    }
}
