/** The edges of SLOTS, PLANS, laws and wars: each sentence of part 3 and of promises 15 to 18, 25 and 26 that names one. */
public final class PlanEdgeTest {
    private static final Checks C = new Checks("PlanEdgeTest");
    /** Slots at 600 and 660. */
    private static final String TWO_SLOTS = "falls 1;keeper 600 720;takes 60;";
    private static final String ONE_SLOT = "falls 1;keeper 600 630;takes 30;";

    public static void main(String[] args) {
        slots();
        seats();
        bits();
        fewestOut();
        costs();
        equals();
        second();
        shade();
        shadeAtTwo();
        shadeOfEight();
        sixtySlots();
        plansInTurn();
        sums();
        slot();
        most();
        lines();
        linesOfEquals();
        war();
        endlessWar();
        C.end();
    }

    private static int slotsOf(int from, int to, int takes) {
        return Checks.made("keeper " + from + " " + to + ";takes " + takes + ";").slots();
    }

    private static void slots() {
        C.edge("Part 3: from the keeper's F on, each takes MINUTES, the last one ends by T", () -> {
            C.same("ends at T", slotsOf(600, 660, 60), 1);
            C.same("a minute too few", slotsOf(600, 659, 60), 0);
            C.same("a minute more", slotsOf(600, 661, 60), 1);
            C.same("two end at T", slotsOf(600, 720, 60), 2);
            C.same("one and 59 minutes", slotsOf(600, 719, 60), 1);
            C.same("the shortest day", slotsOf(0, 1, 1), 1);
            C.same("the shortest day is too short", slotsOf(1438, 1439, 2), 0);
            C.same("the longest day", slotsOf(0, 1439, 60), 23);
        });
        C.edge("Part 3: 30 at most", () -> {
            C.same("29", slotsOf(0, 29, 1), 29);
            C.same("30", slotsOf(0, 30, 1), 30);
            C.same("31 would be", slotsOf(0, 31, 1), 30);
            C.same("1,439 would be", slotsOf(0, 1439, 1), 30);
            C.same("29 of 48", slotsOf(0, 1439, 48), 29);
            C.same("30 of 47", slotsOf(0, 1439, 47), 30);
            C.same("31 of 46 would be", slotsOf(0, 1439, 46), 30);
        });
        C.edge("Promise 17: How many SLOTS a bridge has", () -> {
            C.same("with a second as many", Checks.made("keeper 0 1439;takes 1;second 60 0;").slots(), 30);
            C.same("none", Checks.made("keeper 0 1;second 60 0;").slots(), 0);
        });
    }

    private static int slotWithin(int from, int to) {
        return Checks.made(TWO_SLOTS + "traveller 100 10 " + from + " " + to + " 0;", "pay 5;").slot(1, 0, false, 0);
    }

    private static void seats() {
        C.edge("Part 3: its MINUTE within those in which he may come", () -> {
            C.same("the first slot's minute alone", slotWithin(600, 600), 0);
            C.same("up to the minute ahead of it", slotWithin(0, 599), -1);
            C.same("up to it", slotWithin(0, 600), 0);
            C.same("between two", slotWithin(601, 659), -1);
            C.same("up to the second slot's", slotWithin(601, 660), 1);
            C.same("the second slot's minute alone", slotWithin(660, 660), 1);
            C.same("from the minute behind it on", slotWithin(661, 1439), -1);
            C.same("no slot begins at T", slotWithin(720, 720), -1);
        });
        C.edge("Part 3: 30 at most, seats", () -> {
            String road = "keeper 100 1439;takes 1;";
            C.same("the thirtieth", Checks.made(road + "traveller 50 1 129 1439 0;", "").slot(1, 0, false, 0), 29);
            C.same("no more", Checks.made(road + "traveller 50 1 130 1439 0;", "").slot(1, 0, false, 0), -1);
            C.same("left out", Checks.made(road + "traveller 50 1 130 1439 0;", "").plan(1, 0, false, 0), 1);
        });
        C.edge("Part 3: each in one SLOT at most", () -> {
            ShadowTolls x = Checks.made(TWO_SLOTS + "traveller 100 10 0 1439 0;second 0 0;", "pay 5;");
            C.same("he pays once", x.plan(1, 0, false, 2), 5);
            C.same("once at both", x.plan(1, 0, true, 2) + x.plan(1, 0, true, 3), 5);
            C.same("also if it earns more", x.most(0), 5);
        });
        C.edge("Part 3: one in each", () -> {
            ShadowTolls x = Checks.made(TWO_SLOTS + "traveller 100 10 600 600 0;".repeat(3), "pay 5;");
            C.same("two are left out", x.plan(7, 0, false, 0), 2);
            C.same("one pays", x.plan(7, 0, false, 1), 5);
            ShadowTolls eight = Checks.made("keeper 0 7;takes 1;" + "traveller 100 10 0 1439 0;".repeat(8), "pay 5;");
            C.same("seven of eight", eight.plan(255, 0, false, 0), 1);
            C.same("the last of equals", eight.slot(255, 0, false, 7), -1);
            C.same("the last but one", eight.slot(255, 0, false, 6), 6);
        });
    }

    private static void samePlan(String name, ShadowTolls x, int bits, boolean both, int... due) {
        for (int what = 0; what < 5; what++) {
            C.same(name + ", what " + what, x.plan(bits, 0, both, what), due[what]);
        }
    }

    private static void bits() {
        C.edge("Part 3: for TRAVELLERS (bits), none", () -> {
            ShadowTolls x = Checks.made(TWO_SLOTS + "traveller 100 10 600 700 0;second 0 9;", "pay 5;");
            samePlan("the first", x, 0, false, 0, 0, 0, 0, 0);
            samePlan("both", x, 0, true, 0, 0, 0, 0, 0);
            samePlan("no traveller at all", new ShadowTolls(), 0, false, 0, 0, 0, 0, 0);
            C.same("he is none of them", x.slot(0, 0, true, 0), -1);
        });
        C.edge("Part 3: for TRAVELLERS (bits), one or all of eight", () -> {
            StringBuilder s = new StringBuilder("keeper 0 100;takes 10;");
            for (int k = 0; k < 8; k++) {
                s.append("traveller 100 ").append(k + 1).append(" 0 1439 0;");
            }
            ShadowTolls x = Checks.made(s.toString(), "pay weight;");
            for (int k = 0; k < 8; k++) {
                C.same("he alone " + k, x.plan(1 << k, 0, false, 2), k + 1);
            }
            C.same("all", x.plan(255, 0, false, 2), 36);
            C.same("the last alone sits first", x.slot(128, 0, false, 7), 0);
            C.same("another is none of them", x.slot(128, 0, false, 0), -1);
        });
        C.edge("Part 3: a day without SLOTS leaves all out", () -> {
            ShadowTolls x = Checks.made("keeper 0 59;takes 60;second 0 9;" + "traveller 100 10 0 1439 9;".repeat(8), "pay 5;");
            samePlan("the first", x, 255, false, 8, 0, 0, 0, 0);
            samePlan("both", x, 255, true, 8, 0, 0, 0, 0);
            C.same("nobody sits", x.slot(255, 0, true, 7), -1);
        });
    }

    private static void fewestOut() {
        C.edge("Part 3: The best PLAN leaves the fewest out", () -> {
            // he who may come twice makes room, though it costs him 9,000 more
            String toll = "pay 9000 if hour=11;pay 5;";
            ShadowTolls x = Checks.made(TWO_SLOTS + "traveller 100 10 600 660 9;traveller 100 10 600 600 0;", toll);
            samePlan("both cross", x, 3, false, 0, 9005 + 540 + 5, 9010, 0, 60);
            C.same("he waits", x.slot(3, 0, false, 0), 1);
            C.same("alone he does not", x.slot(1, 0, false, 0), 0);
        });
        C.edge("Part 3: the fewest out, whatever it costs", () -> {
            ShadowTolls one = Checks.made("keeper 1438 1439;takes 1;second 0 99;traveller 100 10 0 1439 9;", "pay 9999;");
            samePlan("one", one, 1, false, 0, 9999 + 9 * 1438, 9999, 0, 1438);
            ShadowTolls all = Checks.made("keeper 1431 1439;takes 1;" + "traveller 100 10 0 1439 9;".repeat(8), "pay 9999;");
            samePlan("eight", all, 255, false, 0, 8 * 9999 + 9 * (8 * 1431 + 28), 8 * 9999, 0, 1438);
            ShadowTolls four = Checks.made("keeper 1435 1439;takes 1;second 0 99;" + "traveller 100 10 0 1439 9;".repeat(8), "pay 9999;");
            samePlan("four at each", four, 255, true, 0, 8 * 9999 + 9 * 2 * (4 * 1435 + 6) + 4 * 99, 4 * 9999, 4 * 9999, 1438);
        });
        C.edge("Part 3: then COSTS least", () -> {
            ShadowTolls x = Checks.made(ONE_SLOT + "traveller 100 11 600 600 0;traveller 100 10 600 600 0;", "pay weight;");
            samePlan("the dearer is left out", x, 3, false, 1, 10, 10, 0, 0);
            C.same("who sits", x.slot(3, 0, false, 1), 0);
            ShadowTolls wait = Checks.made(ONE_SLOT + "traveller 100 10 599 600 2;traveller 100 11 600 600 0;", "pay weight;");
            samePlan("coins 1 less, waiting 2 more", wait, 3, false, 1, 11, 11, 0, 0);
            ShadowTolls equal = Checks.made(ONE_SLOT + "traveller 100 10 599 600 1;traveller 100 11 600 600 0;", "pay weight;");
            samePlan("coins 1 less, waiting 1 more: the least traveller", equal, 3, false, 1, 11, 10, 0, 1);
        });
    }

    private static void costs() {
        C.edge("Part 3: COSTS: COINS, waiting, and the way", () -> {
            ShadowTolls coins = Checks.made(ONE_SLOT + "traveller 100 10 500 600 0;", "pay 5;");
            samePlan("coins alone", coins, 1, false, 0, 5, 5, 0, 100);
            ShadowTolls waiting = Checks.made(ONE_SLOT + "traveller 100 10 500 600 9;");
            samePlan("waiting alone", waiting, 1, false, 0, 900, 0, 0, 100);
            ShadowTolls way = Checks.made(ONE_SLOT + "second 0 99;traveller 100 10 600 600 0;traveller 100 10 600 600 0;");
            samePlan("the way alone", way, 3, true, 0, 99, 0, 0, 0);
            ShadowTolls all = Checks.made(ONE_SLOT + "second 0 99;traveller 100 10 500 600 9;traveller 100 10 500 600 9;", "pay 9999;");
            samePlan("all", all, 3, true, 0, 2 * 9999 + 1800 + 99, 9999, 9999, 100);
        });
    }

    private static void equals() {
        String two = TWO_SLOTS + "traveller 100 10 600 700 0;traveller 100 10 600 700 0;second 0 0;";
        C.edge("Part 3: of these, SLOT by SLOT: the least TRAVELLER", () -> {
            ShadowTolls x = Checks.made(two, "pay 5;");
            C.same("0 in the first", x.slot(3, 0, false, 0), 0);
            C.same("1 in the second", x.slot(3, 0, false, 1), 1);
            ShadowTolls one = Checks.made(ONE_SLOT + "traveller 100 10 600 700 0;".repeat(8), "pay 5;");
            C.same("of eight", one.slot(255, 0, false, 0), 0);
            C.same("of the last three", one.slot(0xE0, 0, false, 5), 0);
            C.same("the next is left out", one.slot(0xE0, 0, false, 6), -1);
        });
        C.edge("Part 3: nobody last", () -> {
            ShadowTolls x = Checks.made("keeper 0 1439;takes 1;traveller 100 10 0 1439 0;second 0 0;", "pay 5;");
            C.same("30 slots alike", x.slot(1, 0, false, 0), 0);
            C.same("60 slots alike", x.slot(1, 0, true, 0), 0);
            ShadowTolls dear = Checks.made(TWO_SLOTS + "traveller 100 10 600 700 0;", "pay 5;pay 1 if hour=10;");
            C.same("nobody first, if that costs less", dear.slot(1, 0, false, 0), 1);
        });
        C.edge("Part 3: (those of the second behind the others)", () -> {
            ShadowTolls x = Checks.made(two, "pay 5;");
            C.same("0", x.slot(3, 0, true, 0), 0);
            C.same("1 behind him at the first", x.slot(3, 0, true, 1), 1);
            samePlan("the second earns nothing", x, 3, true, 0, 10, 10, 0, 60);
            // both may come at 660 alone: the least at the first
            ShadowTolls late = Checks.made(TWO_SLOTS + "traveller 100 10 660 660 0;traveller 100 10 660 660 0;second 0 0;", "pay 5;");
            C.same("0 at the first", late.slot(3, 0, true, 0), 1);
            C.same("1 at the second", late.slot(3, 0, true, 1), 101);
        });
    }

    private static void second() {
        C.edge("Part 3: or also at the second (if there is one, and it is asked for)", () -> {
            ShadowTolls x = Checks.made(ONE_SLOT + "second 0 3;traveller 100 10 600 600 0;traveller 100 10 600 600 0;", "pay 5;");
            samePlan("not asked for", x, 3, false, 1, 5, 5, 0, 0);
            samePlan("asked for", x, 3, true, 0, 13, 5, 5, 0);
        });
        C.edge("Part 3: at the second its own TOLL and noon, and the way", () -> {
            ShadowTolls x = Checks.made(ONE_SLOT + "second 60 3;traveller 100 10 600 600 0;", "pay 5;", "pay 1;");
            samePlan("the way is too dear", x, 1, true, 0, 5, 5, 0, 0);
            x.law(1, 1);
            samePlan("1 and 3 is less than 5", x, 1, true, 0, 4, 0, 1, 0);
            C.same("there", x.slot(1, 0, true, 0), 100);
            ShadowTolls equal = Checks.made(ONE_SLOT + "second 60 4;traveller 100 10 600 600 0;", "pay 5;", "pay 1;");
            equal.law(1, 1);
            C.same("as much as 5: the first", equal.slot(1, 0, true, 0), 0);
            // at 600 the sun stands 2,580 high at the first bridge, 2,640 at the second
            ShadowTolls sun = Checks.made(ONE_SLOT + "second 60 0;traveller 100 10 600 600 0;", "pay shadow;");
            samePlan("a shorter shadow there", sun, 1, true, 0, 104, 0, 104, 0);
            samePlan("here", sun, 1, false, 0, 109, 109, 0, 0);
        });
    }

    /** COSTS of two who come at 600 and 660, and pay their shadows; at 600 it is 1.09.. times a height, at 660 1.04.. times. */
    private static int shadedCosts(String first, String then, String more) {
        return Checks.made(TWO_SLOTS + "traveller " + first + " 10 600 600 0;traveller " + then + " 10 660 660 0;" + more, "pay shadow;").plan(3, 0, false, 1);
    }

    private static void shade() {
        C.edge("Part 3: Under shade: who is in the SLOT right behind one who is higher", () -> {
            C.same("one higher", shadedCosts("101", "100", "shade;"), 110);
            C.same("as high", shadedCosts("100", "100", "shade;"), 109 + 104);
            C.same("one lower", shadedCosts("99", "100", "shade;"), 108 + 104);
            C.same("not under shade", shadedCosts("400", "50", ""), 437 + 52);
            C.same("the highest and the lowest", shadedCosts("400", "50", "shade;"), 437);
        });
        C.edge("Part 3: (with hats", () -> {
            C.same("higher by a hat", shadedCosts("100", "100", "shade;hat 0 1;"), 110);
            C.same("no more by the other's hat", shadedCosts("100", "100", "shade;hat 0 1;hat 1 1;"), 110 + 105);
            C.same("by hats alone", shadedCosts("100", "101", "shade;hat 0 99;"), 217);
            C.same("not higher by a hat alone", shadedCosts("101", "100", "shade;hat 1 1;"), 110 + 105);
        });
        C.edge("Part 3: as both stand)", () -> {
            C.same("he ahead may lie", shadedCosts("101", "100", "shade;lies 0 10;"), 10);
            C.same("he ahead is not higher because he lies high", shadedCosts("100", "100", "shade;lies 0 400;"), 109 + 104);
            C.same("he behind may lie", shadedCosts("101", "100", "shade;lies 1 10;"), 110);
            C.same("he behind is not lower because he lies", shadedCosts("100", "100", "shade;lies 1 10;"), 109 + 10);
        });
        C.edge("Part 3: in the SLOT right behind", () -> {
            String road = "falls 1;keeper 600 780;takes 60;shade;traveller 300 10 600 600 0;traveller 100 10 720 720 0;";
            C.same("a slot between them", Checks.made(road, "pay shadow;").plan(3, 0, false, 1), 327 + 100);
            C.same("one of their height between them", Checks.made(road + "traveller 100 10 660 660 0;", "pay shadow;").plan(7, 0, false, 1), 327 + 100);
            C.same("ahead does not shade", shadedCosts("50", "400", "shade;"), 54 + 418);
        });
    }

    private static void shadeAtTwo() {
        C.edge("Part 3: at the same bridge has no SHADOW", () -> {
            String two = "falls 1;keeper 600 660;takes 60;shade;second 0 0;traveller 300 10 600 600 0;traveller 100 10 600 600 0;";
            samePlan("the second's first slot is behind nobody", Checks.made(two, "pay shadow;"), 3, true, 0, 436, 327, 109, 0);
            // at the second bridge, where the toll is the shadow, one is right behind the other
            ShadowTolls x = Checks.made(TWO_SLOTS + "shade;second 0 0;traveller 300 10 600 600 0;traveller 100 10 660 660 0;", "pay 999;", "pay shadow;");
            x.law(1, 1);
            samePlan("the second's second slot", x, 3, true, 0, 327, 0, 327, 0);
            // of the least costs: he goes behind the higher one, where he has no shadow, not to the other bridge
            ShadowTolls y = Checks.made(TWO_SLOTS + "shade;second 0 0;traveller 300 10 600 600 0;traveller 100 10 660 660 0;", "pay shadow;");
            samePlan("both at the first", y, 3, true, 0, 327, 327, 0, 0);
        });
        C.edge("Part 3: who is left out shades nobody", () -> {
            ShadowTolls x = Checks.made(TWO_SLOTS + "shade;traveller 100 10 600 600 0;traveller 300 10 600 600 0;traveller 100 10 660 660 0;",
                "pay 9999 if height=300;pay shadow if height<300;");
            C.same("behind one as high, for the higher one is left out", x.plan(7, 0, false, 1), 109 + 104);
            C.same("behind the higher one", x.plan(6, 0, false, 1), 9999);
            C.same("behind nobody", x.plan(4, 0, false, 1), 104);
        });
    }

    /** What eight pay who sit in the slots at 660, 670, .. one behind the other, each of a greater weight than the one ahead. */
    private static int paidBy(int[] heights, boolean shaded) {
        int coins = 0;
        for (int slot = 0; slot < 8; slot++) {
            int minute = 660 + 10 * slot;
            int altitude = 2700 - 4 * Math.abs(minute - 720);
            boolean dark = shaded && slot > 0 && heights[slot - 1] > heights[slot];
            coins += (dark ? 0 : heights[slot] * (5400 - altitude) / altitude) + (slot + 1) * (minute / 60);
        }
        return coins;
    }

    /** Their bridge; who sits in a slot is told so many behind traveller 0 as the slot is behind the one at which to begin. */
    private static String eight(int[] heights, int begin) {
        StringBuilder s = new StringBuilder("keeper 660 740;takes 10;");
        for (int k = 0; k < 8; k++) {
            int slot = (begin + k) % 8;
            int minute = 660 + 10 * slot;
            s.append("traveller ").append(heights[slot]).append(' ').append(slot + 1).append(' ').append(minute).append(' ').append(minute).append(" 0;");
        }
        return s.toString();
    }

    private static void shadeOfEight() {
        C.edge("Part 3: Under shade: of eight, each by his own height, weight and MINUTE", () -> {
            int[][] rows = {{100, 90, 95, 80, 120, 110, 70, 75}, {50, 60, 70, 80, 90, 100, 110, 120}, {400, 350, 300, 250, 200, 150, 100, 50},
                {100, 100, 99, 99, 100, 101, 101, 100}, {200, 50, 200, 50, 200, 50, 200, 50}};
            for (int[] heights : rows) {
                for (int begin = 0; begin < 8; begin++) {
                    String name = "heights from " + heights[0] + ", " + heights[1] + ", traveller 0 in slot " + begin;
                    ShadowTolls x = Checks.made(eight(heights, begin) + "shade;", "pay shadow;pay weight*hour;");
                    samePlan(name, x, 255, false, 0, paidBy(heights, true), paidBy(heights, true), 0, 0);
                    ShadowTolls y = Checks.made(eight(heights, begin), "pay shadow;pay weight*hour;");
                    C.same(name + ", without shade", y.plan(255, 0, false, 1), paidBy(heights, false));
                }
            }
        });
        C.edge("Part 3: MOST under shade: who is shaded pays what is left without a SHADOW", () -> {
            ShadowTolls x = Checks.made(TWO_SLOTS + "shade;traveller 300 10 600 600 0;traveller 100 20 660 660 0;", "pay shadow;pay weight;");
            C.same("both cross", x.most(0), 327 + 10 + 20);
            ShadowTolls y = Checks.made(TWO_SLOTS + "shade;traveller 50 10 600 600 0;traveller 100 20 660 660 0;traveller 60 1 600 600 0;", "pay shadow;pay weight;");
            C.same("of two at 600 the one who brings more", y.most(0), 66 + 124);
        });
    }

    private static void sixtySlots() {
        C.edge("Part 3: 30 at most, at each of two bridges", () -> {
            // of each two alike one goes to the second bridge, whose last two slots are the 59th and the 60th of all
            String road = "keeper 0 1439;takes 1;shade;second 0 99;traveller 200 1 28 28 0;traveller 200 1 28 28 0;traveller 100 1 29 29 0;traveller 100 1 29 29 0;";
            ShadowTolls x = Checks.made(road, "pay height;");
            samePlan("60 slots", x, 15, true, 0, 600 + 198, 300, 300, 0);
            C.same("the last but one", x.slot(15, 0, true, 1), 128);
            C.same("the last", x.slot(15, 0, true, 3), 129);
            samePlan("30 slots", x, 15, false, 2, 300, 300, 0, 0);
        });
        C.edge("Part 3: EARNED and COSTS of all 60 SLOTS: waiting, and the way", () -> {
            String road = "keeper 100 1439;takes 1;second 0 99;traveller 200 1 99 100 9;traveller 200 1 99 100 9;traveller 100 1 129 129 9;traveller 100 1 129 129 9;";
            samePlan("60 slots", Checks.made(road, "pay height;"), 15, true, 0, 600 + 18 + 198, 300, 300, 1);
        });
    }

    private static void plansInTurn() {
        C.edge("Promise 15: The best PLAN: what was asked ahead of it tells nothing of it", () -> {
            String road = TWO_SLOTS + "second 0 0;traveller 100 10 500 700 0;traveller 200 10 550 700 0;traveller 100 10 600 660 0;shade;";
            for (String toll : new String[] {"", "pay shadow;"}) {
                for (int ahead = 0; ahead < 8; ahead++) {
                    for (int bits = 0; bits < 8; bits++) {
                        for (boolean both : new boolean[] {false, true}) {
                            sameBehind(Checks.made(road, toll), Checks.made(road, toll), ahead, bits, both);
                        }
                    }
                }
            }
        });
    }

    private static void sameBehind(ShadowTolls used, ShadowTolls fresh, int ahead, int bits, boolean both) {
        used.plan(ahead, 0, !both, 0);
        String name = "bits " + bits + (both ? ", both" : ", one bridge") + " behind bits " + ahead;
        for (int what = 0; what < 5; what++) {
            C.same(name + ", what " + what, used.plan(bits, 0, both, what), fresh.plan(bits, 0, both, what));
        }
        for (int k = 0; k < 3; k++) {
            C.same(name + ", slot of " + k, used.slot(bits, 0, both, k), fresh.slot(bits, 0, both, k));
        }
        C.same(name + ", most", used.most(0), fresh.most(0));
    }

    private static void sums() {
        C.edge("Part 3: EARNED: COINS of a PLAN", () -> {
            ShadowTolls x = Checks.made(ONE_SLOT + "second 0 9;traveller 100 10 500 600 9;traveller 100 20 500 600 9;", "pay weight;");
            samePlan("no waiting, no way in it", x, 3, true, 0, 30 + 1800 + 9, 10, 20, 100);
            samePlan("the second earns nothing, when it is not asked for", x, 3, false, 1, 910, 10, 0, 100);
        });
        C.edge("Part 3: JAM: the longest waiting in it", () -> {
            ShadowTolls x = Checks.made(TWO_SLOTS + "second 0 0;traveller 100 10 590 600 0;traveller 100 10 640 660 9;traveller 100 10 550 600 0;", "pay 5;");
            C.same("nobody", x.plan(0, 0, false, 4), 0);
            C.same("10 minutes", x.plan(1, 0, false, 4), 10);
            C.same("minutes, not what they cost", x.plan(2, 0, false, 4), 20);
            C.same("the longer", x.plan(3, 0, false, 4), 20);
            C.same("also at the second", x.plan(7, 0, true, 4), 50);
            C.same("not of one who is left out", x.plan(5, 0, false, 4), 10);
            C.same("no waiting", Checks.made(ONE_SLOT + "traveller 100 10 600 700 0;").plan(1, 0, false, 4), 0);
            C.same("the longest of all", Checks.made("keeper 1438 1439;takes 1;traveller 100 10 0 1439 0;").plan(1, 29, false, 4), 1438);
        });
        C.edge("Promise 15: 0 how many are left out", () -> {
            ShadowTolls x = Checks.made(ONE_SLOT + "traveller 100 10 600 600 0;".repeat(8), "pay 5;");
            for (int many = 1; many <= 8; many++) {
                C.same("of " + many, x.plan((1 << many) - 1, 0, false, 0), many - 1);
            }
        });
    }

    private static void slot() {
        C.edge("Promise 16: (100 and more: of the second)", () -> {
            String people = "traveller 100 10 29 29 0;".repeat(2) + "traveller 100 10 0 0 0;".repeat(2);
            ShadowTolls x = Checks.made("keeper 0 1439;takes 1;second 0 0;" + people, "pay 5;");
            C.same("the first's last slot", x.slot(15, 0, true, 0), 29);
            C.same("the second's last slot", x.slot(15, 0, true, 1), 129);
            C.same("the first's first slot", x.slot(15, 0, true, 2), 0);
            C.same("the second's first slot", x.slot(15, 0, true, 3), 100);
        });
        C.edge("Promise 16: NONE: left out, or none of them", () -> {
            ShadowTolls x = Checks.made(ONE_SLOT + "second 0 0;" + "traveller 100 10 600 600 0;".repeat(3), "pay 5;");
            C.same("left out", x.slot(7, 0, true, 2), -1);
            C.same("left out at the first", x.slot(7, 0, false, 1), -1);
            C.same("none of them", x.slot(3, 0, true, 2), -1);
            C.same("none at all", x.slot(0, 29, true, 0), -1);
        });
    }

    private static void most() {
        C.edge("Part 3: the most COINS any PLAN (also one that leaves some out)", () -> {
            ShadowTolls x = Checks.made(ONE_SLOT + "traveller 100 10 500 600 9;traveller 100 11 0 600 9;", "pay weight;");
            C.same("the heavier", x.most(0), 11);
            // behind the higher one the lower has no shadow: without that one he brings 104
            ShadowTolls y = Checks.made(TWO_SLOTS + "shade;traveller 300 10 600 600 0;traveller 100 10 660 660 0;", "pay shadow if height<300;");
            C.same("one is left out", y.most(0), 104);
            C.same("the best plan brings nothing", y.plan(3, 0, false, 2), 0);
        });
        C.edge("Part 3: at the first bridge brings, all TRAVELLERS", () -> {
            ShadowTolls x = Checks.made(ONE_SLOT + "second 0 0;traveller 100 10 600 600 0;traveller 100 11 600 600 0;", "pay weight;", "pay 9999;");
            C.same("one slot, one bridge", x.most(0), 11);
            x.law(1, 1);
            C.same("the second's toll is none of it", x.most(0), 11);
            x.law(0, 1);
            C.same("the first's is", x.most(29), 9999);
            x.plan(3, 0, true, 0);
            C.same("nor are the second's slots, also when a plan of both was asked for ahead", x.most(0), 9999);
        });
        C.edge("Promise 18: MOST of nobody, of eight", () -> {
            C.same("no traveller", new ShadowTolls().most(0), 0);
            C.same("no toll", Checks.made("traveller 100 10 600 600 0;").most(0), 0);
            C.same("none may come", Checks.made(ONE_SLOT + "traveller 100 10 601 1439 0;", "pay 5;").most(0), 0);
            C.same("no slot", Checks.made("keeper 0 1;traveller 100 10 0 1439 0;", "pay 5;").most(0), 0);
            C.same("eight", Checks.made("traveller 100 10 0 1439 9;".repeat(8), "pay 9999;").most(0), 8 * 9999);
        });
    }

    private static void lines() {
        C.edge("Part 3: (a, b 0 to 9)", () -> {
            ShadowTolls x = Checks.made(ONE_SLOT + "traveller 400 999 600 600 0;");
            C.same("all of both", x.lines(0, 0, 0), 99);
            C.same("9/100 of 437, 9/10 of 999", x.lines(0, 0, 1), 39 + 899);
            ShadowTolls weight = Checks.made("sun 0 5400;falls 1;keeper 720 750;traveller 50 10 720 720 0;");
            C.same("no shadow: b alone", weight.lines(0, 0, 0), 9);
            C.same("earned", weight.lines(0, 0, 1), 9);
            ShadowTolls shadow = Checks.made(ONE_SLOT + "traveller 400 1 600 600 0;");
            C.same("no weight: a alone", shadow.lines(0, 0, 0), 90);
            C.same("earned", shadow.lines(0, 0, 1), 39);
        });
        C.edge("Part 3: less j (0 to 9) times JAM", () -> {
            // who waits an hour has a shadow of 418 instead of 437, and does, if he pays less by it: from a = 3 on (13 and 12)
            ShadowTolls x = Checks.made("falls 1;keeper 600 720;takes 60;traveller 400 1 600 700 0;");
            C.same("j 0: earned", x.lines(0, 0, 1), 37);
            C.same("j 0: jam", x.lines(0, 0, 2), 60);
            C.same("j 0: a, b", x.lines(0, 0, 0), 90);
            for (int j = 1; j <= 9; j += 8) {
                C.same("j " + j + ": jam", x.lines(0, j, 2), 0);
                C.same("j " + j + ": a, b", x.lines(0, j, 0), 20);
                C.same("j " + j + ": earned", x.lines(0, j, 1), 8);
            }
        });
        C.edge("Part 3: is greatest, also below 0", () -> {
            ShadowTolls x = Checks.made("falls 1;keeper 1438 1439;takes 1;traveller 50 20 0 1439 0;");
            C.same("a jam that no toll mends", x.lines(0, 9, 2), 1438);
            C.same("9/10 of 20, 9/100 of 84", x.lines(0, 9, 1), 18 + 50 * (5400 - 1982) / 1982 * 9 / 100);
        });
        C.edge("Part 3: (first bridge alone)", () -> {
            ShadowTolls x = Checks.made(ONE_SLOT + "second 0 0;traveller 50 10 600 600 0;traveller 50 10 600 600 0;", "pay 0;");
            C.same("one crosses", x.lines(0, 0, 1), 9 + 54 * 9 / 100);
        });
    }

    private static void linesOfEquals() {
        C.edge("Part 3: of these the least a, then b", () -> {
            // a shadow of 15 pays 1 from a = 7 on, a weight of 2 pays 1 from b = 5 on
            ShadowTolls x = Checks.made("sun 0 4150;falls 1;keeper 720 750;traveller 50 2 720 720 0;");
            C.same("the least", x.lines(0, 0, 0), 75);
            C.same("earned", x.lines(0, 0, 1), 2);
            C.same("nobody: 0, 0", new ShadowTolls().lines(0, 9, 0), 0);
            C.same("all earn nothing: 0, 0", Checks.made("sun 0 5400;falls 1;keeper 720 750;traveller 50 1 720 720 0;").lines(0, 0, 0), 0);
        });
        C.edge("Promise 25: the first bridge's TOLL stays as it is", () -> {
            ShadowTolls x = Checks.made(ONE_SLOT + "traveller 50 10 600 600 0;", "pay 5;", "pay 6;");
            x.law(0, 1);
            x.lines(0, 0, 0);
            C.same("coins", x.coins(0, 0, 0, 600, false), 6);
            C.same("which it was", x.law(0, 0), 1);
            C.same("tolls", x.told(9), 2);
        });
    }

    private static void war() {
        String one = ONE_SLOT + "second 0 3;traveller 100 10 600 600 0;";
        C.edge("Part 3: the bridges by turns (the first begins)", () -> {
            // he pays the first's toll, if it is no more than the second's and 3
            ShadowTolls x = Checks.made(one, "pay 5;", "pay 9;");
            x.law(1, 1);
            C.same("behind no turn", x.war(0, 0, 0), 1);
            C.same("the first alone has moved", x.war(0, 1, 0), 11);
            C.same("then the second", x.war(0, 2, 0), 10);
            C.same("then the first", x.war(0, 3, 0), 0);
        });
        C.edge("Part 3: of all TOLLS", () -> {
            String two = one + "traveller 100 10 600 600 0;";
            ShadowTolls x = Checks.made(two, "pay 1;", "pay 2;", "pay 3;", "pay 4;");
            C.same("none has moved", x.war(0, 0, 0), 0);
            C.same("the first", x.war(0, 1, 0), 30);
            C.same("both", x.war(0, 2, 0), 33);
            C.same("settled", x.war(0, 2, 1), 1);
            ShadowTolls y = Checks.made(two, "pay 4;", "pay 3;", "pay 2;", "pay 1;");
            y.law(0, 3);
            y.law(1, 3);
            C.same("the first takes the first of four", y.war(0, 1, 0), 3);
            C.same("the second too", y.war(0, 2, 0), 0);
            C.same("settled", y.war(0, 2, 1), 1);
            C.same("one toll", Checks.made(two, "pay 1;").war(0, 20, 0), 0);
            C.same("one toll is settled", Checks.made(two, "pay 1;").war(0, 0, 1), 1);
        });
        C.edge("Part 3: (of these the least)", () -> {
            ShadowTolls x = Checks.made(one, "pay 5;", "pay 5;", "pay 5;", "pay 5;");
            x.law(0, 3);
            x.law(1, 3);
            C.same("the first takes the least", x.war(0, 1, 0), 3);
            C.same("the second too", x.war(0, 2, 0), 0);
        });
        C.edge("Part 3: SETTLED is it, when neither would change any more", () -> {
            ShadowTolls x = Checks.made(one, "pay 5;", "pay 9;");
            C.same("neither would", x.war(0, 0, 1), 1);
            x.law(1, 1);
            C.same("both would", x.war(0, 0, 1), 0);
            C.same("the first would not, the second would", x.war(0, 1, 1), 0);
            C.same("the second would not, the first would", x.war(0, 2, 1), 0);
            C.same("neither would then", x.war(0, 3, 1), 1);
            C.same("nor behind 20 turns", x.war(0, 20, 1), 1);
            ShadowTolls equal = Checks.made(one, "pay 5;", "pay 5;");
            equal.law(0, 1);
            C.same("the first would take the lesser of equals", equal.war(0, 0, 1), 0);
        });
        C.edge("Part 3: SETTLED: each by what it would take itself", () -> {
            // the way is so long that the first takes 9, and the second, which nobody goes to, the least
            ShadowTolls x = Checks.made(ONE_SLOT + "second 0 10;traveller 100 10 600 600 0;", "pay 5;", "pay 9;");
            C.same("behind two turns", x.war(0, 2, 0), 10);
            C.same("settled", x.war(0, 2, 1), 1);
            C.same("not ahead", x.war(0, 0, 1), 0);
        });
        C.edge("Part 3: of all TOLLS, when a bridge earns nothing", () -> {
            // at 600 the shadow is shorter at the second bridge, so nobody goes to the first
            ShadowTolls x = Checks.made(ONE_SLOT + "second 60 0;traveller 100 10 600 600 0;", "pay shadow;", "pay shadow;", "pay shadow;", "pay shadow;");
            x.law(0, 3);
            C.same("the first takes the least", x.war(0, 1, 0), 0);
            C.same("settled", x.war(0, 1, 1), 1);
        });
        C.edge("Promise 26: turn by turn from TOLLS as they are", () -> {
            ShadowTolls x = Checks.made(one, "pay 5;", "pay 9;");
            x.law(0, 1);
            x.law(1, 1);
            x.war(0, 20, 0);
            C.same("a war leaves the first's", x.law(0, 0), 1);
            C.same("a war leaves the second's", x.law(1, 0), 1);
        });
    }

    private static void endlessWar() {
        C.edge("Promise 26: behind so many turns (0 to 20)", () -> {
            // 9, 7 or 5, and 1 for the way: the second goes below the first's, till it can't, and takes 9 again
            ShadowTolls x = Checks.made(ONE_SLOT + "second 0 1;traveller 100 10 600 600 0;", "pay 9;", "pay 7;", "pay 5;");
            int[] round = {20, 0, 1, 11, 12, 22};
            C.same("none", x.war(0, 0, 0), 0);
            for (int turns = 1; turns <= 20; turns++) {
                C.same("behind " + turns, x.war(0, turns, 0), round[turns % 6]);
                C.same("never settled, behind " + turns, x.war(0, turns, 1), 0);
            }
        });
    }
}
