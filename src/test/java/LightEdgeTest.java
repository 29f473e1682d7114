/** The edges of light, COINS and BEST MINUTES: each sentence of part 2 and of promises 6 to 14 that names one. */
public final class LightEdgeTest {
    private static final Checks C = new Checks("LightEdgeTest");
    private static final String ONE = "traveller 100 10 0 1439 0;";

    public static void main(String[] args) {
        night();
        secondNoon();
        shadow();
        noShadow();
        bounds();
        facts();
        lying();
        tollOfBridge();
        law();
        bestWindow();
        bestChoice();
        week();
        told();
        C.end();
    }

    private static void night() {
        C.edge("Part 2: ALTITUDE: that of noon less R times how many MINUTES it is from 720", () -> {
            ShadowTolls x = Checks.made("sun 0 5400;falls 1;");
            C.same("noon", x.altitude(0, 0, 720), 5400);
            C.same("a minute ahead", x.altitude(0, 0, 719), 5399);
            C.same("a minute behind", x.altitude(0, 0, 721), 5399);
            C.same("the first minute", x.altitude(0, 0, 0), 4680);
            C.same("the last minute", x.altitude(0, 0, 1439), 4681);
            ShadowTolls steep = Checks.made("sun 0 5400;falls 9;");
            C.same("the last of light", steep.altitude(0, 0, 121), 9);
            C.same("no light ahead of it", steep.altitude(0, 0, 120), 0);
        });
        C.edge("Part 2: if it is below 1, it is night", () -> {
            ShadowTolls x = Checks.made("sun 0 100;falls 1;lamp 7;");
            C.same("1 behind noon", x.altitude(0, 0, 819), 1);
            C.same("0 behind noon", x.altitude(0, 0, 820), 7);
            C.same("1 ahead of noon", x.altitude(0, 0, 621), 1);
            C.same("0 ahead of noon", x.altitude(0, 0, 620), 7);
            ShadowTolls y = Checks.made("sun 0 100;falls 9;lamp 7;");
            C.same("1", y.altitude(0, 0, 731), 1);
            C.same("8 below 0", y.altitude(0, 0, 732), 7);
            C.same("far below 0", y.altitude(0, 0, 0), 7);
        });
        C.edge("Part 2: that of the lamp", () -> {
            C.same("the least", Checks.made("sun 0 60;falls 9;lamp 1;").altitude(0, 0, 0), 1);
            C.same("the greatest", Checks.made("sun 0 60;falls 9;lamp 5400;").altitude(0, 0, 1439), 5400);
            C.same("not by day", Checks.made("sun 0 60;falls 9;lamp 5400;").altitude(0, 0, 726), 6);
            ShadowTolls x = Checks.made("sun 0 60;falls 9;lamp 54;second 60 0;");
            C.same("at the second too", x.altitude(1, 0, 720), 54);
            C.same("a shadow by it", x.shadow(1, 0, 720, 100), 9900);
        });
        C.edge("Part 2: or no light", () -> {
            ShadowTolls x = Checks.made("sun 0 60;falls 9;");
            C.same("altitude", x.altitude(0, 0, 727), 0);
            C.same("altitude", x.altitude(0, 0, 713), 0);
            C.same("shadow", x.shadow(0, 0, 727, 999), 0);
        });
    }

    private static void secondNoon() {
        C.edge("Part 2: at the second bridge from 720 less E", () -> {
            ShadowTolls least = Checks.made("falls 1;second 0 0;");
            C.same("E 0", least.altitude(1, 0, 720), 2700);
            C.same("E 0, ahead", least.altitude(1, 0, 719), 2699);
            ShadowTolls most = Checks.made("falls 1;second 60 0;");
            C.same("E 60", most.altitude(1, 0, 660), 2700);
            C.same("E 60, ahead", most.altitude(1, 0, 659), 2699);
            C.same("E 60, behind", most.altitude(1, 0, 661), 2699);
            C.same("E 60, the first minute", most.altitude(1, 0, 0), 2040);
            C.same("E 60, the last minute", most.altitude(1, 0, 1439), 1921);
            C.same("the first's noon", most.altitude(0, 0, 720), 2700);
            C.same("the first's", most.altitude(0, 0, 660), 2640);
        });
    }

    private static void shadow() {
        C.edge("Part 2: it times (5,400 less ALTITUDE) by ALTITUDE (cut)", () -> {
            ShadowTolls x = Checks.made("falls 1;sun 1 1351;sun 2 1350;sun 3 1349;");
            C.same("2.9970..", x.shadow(0, 1, 720, 1), 2);
            C.same("3", x.shadow(0, 2, 720, 1), 3);
            C.same("3.0029..", x.shadow(0, 3, 720, 1), 3);
            C.same("times ahead of by: 299.70..", x.shadow(0, 1, 720, 100), 299);
            C.same("300.29..", x.shadow(0, 3, 720, 100), 300);
            C.same("0.99..", Checks.made("sun 0 2701;").shadow(0, 0, 720, 1), 0);
            C.same("1", Checks.made("").shadow(0, 0, 720, 1), 1);
        });
        C.edge("Part 2: 9,999 at most", () -> {
            ShadowTolls x = Checks.made("sun 0 60;falls 6;sun 1 490;");
            C.same("99 times 101", x.shadow(0, 0, 721, 101), 9999);
            C.same("99 times 100", x.shadow(0, 0, 721, 100), 9900);
            C.same("10,000 is too much", x.shadow(0, 1, 720, 998), 9999);
            C.same("9,990", x.shadow(0, 1, 720, 997), 9990);
            ShadowTolls low = Checks.made("lamp 1;sun 0 60;falls 9;");
            C.same("5,399", low.shadow(0, 0, 0, 1), 5399);
            C.same("two times 5,399", low.shadow(0, 0, 0, 2), 9999);
            C.same("999 times 5,399", low.shadow(0, 0, 0, 999), 9999);
        });
        C.edge("Part 2: SHADOW of a HEIGHT right under the sun", () -> {
            ShadowTolls x = Checks.made("sun 0 5400;sun 1 5399;");
            C.same("5,400 high", x.shadow(0, 0, 720, 999), 0);
            C.same("5,399 high", x.shadow(0, 1, 720, 999), 0);
        });
    }

    private static void noShadow() {
        C.edge("Part 2: 0 without light", () -> {
            ShadowTolls x = Checks.made("sun 0 60;falls 9;" + ONE, "pay shadow;");
            C.same("by day", x.coins(0, 0, 0, 726, false), 9999);
            C.same("at night", x.coins(0, 0, 0, 727, false), 0);
            C.same("at night, dark", x.coins(0, 0, 0, 727, true), 0);
        });
        C.edge("Part 2: under clouds, in another one's shade (Promise 12: dark)", () -> {
            ShadowTolls x = Checks.made("sun 0 60;falls 9;lamp 2700;" + ONE, "pay shadow;pay height;");
            C.same("in the light", x.coins(0, 0, 0, 720, false), 100 + 8900);
            C.same("dark", x.coins(0, 0, 0, 720, true), 100);
            C.same("by the lamp", x.coins(0, 0, 0, 0, false), 200);
            C.same("dark, at night", x.coins(0, 0, 0, 0, true), 100);
        });
    }

    private static int coinsBy(String law) {
        return Checks.made(ONE, law).coins(0, 0, 3, 720, false);
    }

    private static void bounds() {
        String max = "2048*1024*1024-1";
        String min = "2048*1024*1024";
        C.edge("Part 2: 0 at least", () -> {
            C.same("0", coinsBy("pay 0;"), 0);
            C.same("1 below", coinsBy("pay 0-1;"), 0);
            C.same("5 less 5", coinsBy("pay 5;pay 0-5;"), 0);
            C.same("5 less 6", coinsBy("pay 5;pay 0-6;"), 0);
            C.same("5 less 4", coinsBy("pay 5;pay 0-4;"), 1);
            C.same("a row below 0 counts with the others", coinsBy("pay 0-6;pay 7;"), 1);
            C.same("the least of all", coinsBy("pay " + min + ";"), 0);
        });
        C.edge("Part 2: 9,999 at most", () -> {
            C.same("9,999", coinsBy("pay 9999;"), 9999);
            C.same("9,998 and 1", coinsBy("pay 9998;pay 1;"), 9999);
            C.same("9,998 and 2", coinsBy("pay 9998;pay 2;"), 9999);
            C.same("a row above it counts with the others", coinsBy("pay 9999;pay 2;pay 0-3;"), 9998);
            C.same("the greatest of all", coinsBy("pay " + max + ";"), 9999);
        });
        C.edge("Part 2: (the sum in 64 bits)", () -> {
            C.same("two of the greatest", coinsBy("pay " + max + ";pay " + max + ";"), 9999);
            C.same("the greatest and 1", coinsBy("pay " + max + ";pay 1;"), 9999);
            C.same("two of the least and 5", coinsBy("pay " + min + ";pay " + min + ";pay 5;"), 0);
            C.same("the least less 1", coinsBy("pay " + min + ";pay 0-1;"), 0);
            C.same("ten of the greatest", coinsBy(("pay " + max + ";").repeat(10)), 9999);
            C.same("ten of the least", coinsBy(("pay " + min + ";").repeat(10)), 0);
            C.same("the greatest, the least, and 8", coinsBy("pay " + max + ";pay " + min + ";pay 8;"), 7);
        });
        C.edge("Part 2: all E of ROWS whose C holds (or that have none)", () -> {
            C.same("no row", coinsBy(""), 0);
            C.same("none holds", coinsBy("pay 5 if 1=2;pay 6 if 2=3;"), 0);
            C.same("one holds, one has none", coinsBy("pay 1;pay 2 if 1=1;pay 4 if 1=2;"), 3);
        });
    }

    private static void facts() {
        C.edge("Part 2: height: with the hat", () -> {
            C.same("none", Checks.made(ONE, "pay height;").coins(0, 0, 0, 720, false), 100);
            C.same("the least", Checks.made(ONE + "hat 0 1;", "pay height;").coins(0, 0, 0, 720, false), 101);
            C.same("the greatest", Checks.made("traveller 400 1 0 0 0;hat 0 99;", "pay height;").coins(0, 0, 0, 720, false), 499);
            C.same("its shadow", Checks.made("traveller 400 1 0 0 0;hat 0 99;", "pay shadow;").coins(0, 0, 0, 720, false), 499);
        });
        C.edge("Part 2: hour: the MINUTE by 60", () -> {
            ShadowTolls x = Checks.made(ONE, "pay 100+hour;");
            int[][] dues = {{0, 100}, {59, 100}, {60, 101}, {119, 101}, {120, 102}, {1379, 122}, {1380, 123}, {1439, 123}};
            for (int[] due : dues) {
                C.same("minute " + due[0], x.coins(0, 0, 0, due[0], false), due[1]);
            }
        });
        C.edge("Part 2: feast: 1, if it is one", () -> {
            ShadowTolls x = Checks.made(ONE + "feast 0;feast 29;", "pay 5+feast;");
            C.same("day 0", x.coins(0, 0, 0, 0, false), 6);
            C.same("day 1", x.coins(0, 0, 1, 0, false), 5);
            C.same("day 29", x.coins(0, 0, 29, 0, false), 6);
        });
        C.edge("Terms: \"day\" in a TOLL is a DAY, 0 to 29", () -> {
            ShadowTolls x = Checks.made(ONE, "pay 5+day;");
            C.same("day 0", x.coins(0, 0, 0, 0, false), 5);
            C.same("day 29", x.coins(0, 0, 29, 0, false), 34);
        });
        C.edge("Terms: \"weight\" in a TOLL is the WEIGHT, 1 to 999", () -> {
            C.same("the least", Checks.made("traveller 50 1 0 0 0;", "pay weight;").coins(0, 0, 0, 0, false), 1);
            C.same("the greatest", Checks.made("traveller 50 999 0 0 0;", "pay weight;").coins(0, 0, 0, 0, false), 999);
        });
    }

    private static int lyingPays(String law) {
        return Checks.made("traveller 100 10 0 1439 0;hat 0 9;lies 0 40;", law).coins(0, 0, 0, 720, false);
    }

    private static void lying() {
        C.edge("Part 2: Who can lie pays the lesser of both", () -> {
            C.same("lying is less", lyingPays("pay height;"), 40);
            C.same("standing is less", lyingPays("pay weight;"), 10);
            C.same("both alike", lyingPays("pay 7;"), 7);
            C.same("lying is one less", lyingPays("pay height;pay 3*weight+38-height;"), 68);
            C.same("below 0 is 0", lyingPays("pay weight-20;"), 0);
            C.same("above 9,999 is 9,999", lyingPays("pay 9999*weight;"), 9999);
        });
        C.edge("Part 2: (standing: with the hat; lying: HEIGHT N, twice the WEIGHT)", () -> {
            C.same("standing", lyingPays("pay height if height>40;pay 9999 if height=40;"), 109);
            C.same("lying, without a hat", lyingPays("pay height if height<100;pay 9999 if height>40;"), 40);
            C.same("lying, the shadow", lyingPays("pay shadow;"), 40);
            C.same("lying, twice the weight", lyingPays("pay weight if weight>10;pay 9999 if weight=10;"), 20);
            ShadowTolls heavy = Checks.made("traveller 50 999 0 0 0;lies 0 400;", "pay weight if height=400;pay 9999 if height=50;");
            C.same("the heaviest", heavy.coins(0, 0, 0, 720, false), 1998);
            ShadowTolls low = Checks.made("traveller 50 999 0 0 0;lies 0 10;", "pay height;");
            C.same("the lowest", low.coins(0, 0, 0, 720, false), 10);
        });
        C.edge("Promise 7: lying (0: he can't)", () -> {
            ShadowTolls x = Checks.made(ONE, "pay height;pay weight;");
            C.same("he can't", x.traveller(0, 6), 0);
            C.same("he stands", x.coins(0, 0, 0, 0, false), 110);
        });
    }

    private static void tollOfBridge() {
        C.edge("Part 2: Each bridge has a TOLL (0 at first", () -> {
            ShadowTolls x = Checks.made(ONE + "second 0 0;", "pay 5;", "pay 6;");
            C.same("the first", x.coins(0, 0, 0, 0, false), 5);
            C.same("the second", x.coins(1, 0, 0, 0, false), 5);
            C.same("the first had", x.law(0, 1), 0);
            C.same("the second had", x.law(1, 1), 0);
        });
        C.edge("Part 2: without such a one all COINS are 0", () -> {
            ShadowTolls x = Checks.made("traveller 400 999 600 700 2;second 0 9;");
            C.same("coins", x.coins(0, 0, 0, 720, false), 0);
            C.same("coins at the second", x.coins(1, 0, 0, 720, true), 0);
            C.same("best costs the waiting alone", x.best(0, 0, 0, 1), 0);
            C.same("best costs the way alone", x.best(1, 0, 0, 1), 9);
            C.same("earned", x.plan(1, 0, false, 2), 0);
            C.same("most", x.most(0), 0);
            C.same("season", x.season(0, 30, 1), 0);
            C.same("cross", x.cross(0, 0, 0, 650), 0);
            C.same("week", x.week(0, 0), 0);
            C.same("lines have their own", x.lines(0, 0, 1) > 0 ? 1 : 0, 1);
            Checks.toll(x, "pay 5;");
            C.same("toll 0 counts once it is told", x.coins(1, 0, 0, 720, true), 5);
        });
    }

    private static void law() {
        C.edge("Promise 11: A bridge's TOLL is another one: which it was", () -> {
            ShadowTolls x = Checks.made(ONE + "second 0 0;", "pay 5;", "pay 6;", "pay 7;", "pay 8;");
            C.same("it was 0", x.law(0, 3), 0);
            C.same("it was 3", x.law(0, 3), 3);
            C.same("it was 3 still", x.law(0, 0), 3);
            C.same("the second's was not touched", x.law(1, 3), 0);
            C.same("nor the first's", x.coins(0, 0, 0, 0, false), 5);
            C.same("the second's", x.coins(1, 0, 0, 0, false), 8);
        });
    }

    /** The BEST MINUTE of one who may come from one minute to another, when the bridge is open from 600 to 700. */
    private static int bestOf(int from, int to) {
        return Checks.made("keeper 600 700;traveller 100 10 " + from + " " + to + " 0;", "pay 5;").best(0, 0, 0, 0);
    }

    private static void bestWindow() {
        C.edge("Part 2: in which it is open (F to T, both)", () -> {
            C.same("F itself", bestOf(0, 600), 600);
            C.same("ahead of F", bestOf(0, 599), -1);
            C.same("T itself", bestOf(700, 1439), 700);
            C.same("behind T", bestOf(701, 1439), -1);
            C.same("all", bestOf(0, 1439), 600);
        });
        C.edge("Part 2: and he may come", () -> {
            C.same("one minute alone", bestOf(650, 650), 650);
            C.same("his first", bestOf(650, 651), 650);
            C.same("F and ahead", bestOf(599, 650), 600);
            // the shadow is 172 at 640, 162 at 649, 160 at 650
            C.same("his last, if it is the best", Checks.made("keeper 600 700;falls 9;traveller 100 10 640 650 0;", "pay shadow;").best(0, 0, 0, 0), 650);
            C.same("his first, if it is as good", bestOf(640, 650), 640);
        });
        C.edge("Terms: MINUTES 0 to 1,439, of a BEST MINUTE", () -> {
            C.same("the first", Checks.made("keeper 0 1439;traveller 100 10 0 0 0;", "pay 5;").best(0, 0, 0, 0), 0);
            C.same("the last", Checks.made("keeper 0 1439;traveller 100 10 1439 1439 0;", "pay 5;").best(0, 0, 0, 0), 1439);
        });
        C.edge("Promise 13: BEST MINUTE (what 0; NONE: there is none)", () -> {
            C.same("none", bestOf(0, 599), -1);
            C.same("none in the last minutes", Checks.made("keeper 0 1438;traveller 100 10 1439 1439 0;", "pay 5;").best(0, 0, 29, 0), -1);
        });
        C.edge("Promise 13: what it COSTS (1; NONE)", () -> {
            ShadowTolls x = Checks.made("keeper 600 700;traveller 100 10 0 599 9;traveller 100 10 590 600 9;second 0 99;", "pay 9999;");
            C.same("none", x.best(0, 0, 0, 1), -1);
            C.same("none, whatever the way", x.best(1, 0, 0, 1), -1);
            C.same("all together", x.best(1, 1, 0, 1), 9999 + 90 + 99);
        });
    }

    private static void bestChoice() {
        C.edge("Part 2: that of the least COINS and waiting", () -> {
            // the toll falls by 5 from 660 on; to wait till then costs 4, 5, 6
            String toll = "pay 15 if hour=10;pay 10 if hour=11;";
            C.same("waiting costs less", Checks.made("keeper 656 700;traveller 100 10 656 700 1;", toll).best(0, 0, 0, 0), 660);
            C.same("waiting costs as much: the first", Checks.made("keeper 655 700;traveller 100 10 655 700 1;", toll).best(0, 0, 0, 0), 655);
            C.same("waiting costs more", Checks.made("keeper 654 700;traveller 100 10 654 700 1;", toll).best(0, 0, 0, 0), 654);
            C.same("no waiting costs", Checks.made("keeper 600 700;traveller 100 10 600 700 0;", toll).best(0, 0, 0, 0), 660);
            C.same("waiting counts from his own F", Checks.made("keeper 600 700;traveller 100 10 0 700 9;", toll).best(0, 0, 0, 1), 5400 + 15);
            C.same("0 waited", Checks.made("keeper 600 700;traveller 100 10 600 700 9;", toll).best(0, 0, 0, 1), 15);
        });
        C.edge("Part 2: of these the first", () -> {
            C.same("all alike", Checks.made("traveller 100 10 0 1439 0;", "pay 5;").best(0, 0, 0, 0), 360);
            C.same("dear, then two hours alike", Checks.made("traveller 100 10 0 1439 0;", "pay 5;pay 1 if hour<9 or hour>10;").best(0, 0, 0, 0), 540);
            C.same("two that are apart", Checks.made("traveller 100 10 0 1439 0;", "pay 5;pay 1 if not [hour=8 or hour=12];").best(0, 0, 0, 0), 480);
        });
        C.edge("Part 2: (and the way, at the second)", () -> {
            ShadowTolls x = Checks.made("keeper 600 700;traveller 100 10 600 700 0;second 0 99;", "pay 5;");
            C.same("the way", x.best(1, 0, 0, 1), 104);
            C.same("no way at the first", x.best(0, 0, 0, 1), 5);
            C.same("the minute is the same", x.best(1, 0, 0, 0), 600);
        });
    }

    private static void week() {
        C.edge("Promise 14: The DAY of the least BEST MINUTE of one", () -> {
            C.same("day 29", Checks.made(ONE, "pay 40-day;").week(0, 0), 29);
            C.same("day 0", Checks.made(ONE, "pay 40+day;").week(0, 0), 0);
            C.same("one less on day 17", Checks.made(ONE + "feast 17;", "pay 40-feast;").week(0, 0), 17);
            C.same("by the second's toll", secondPays().week(1, 0), 9);
            C.same("by the first's toll", secondPays().week(0, 0), 8);
        });
        C.edge("Promise 14: The DAY of the least BEST MINUTE of one: MINUTES 0 and 1439 are as any other", () -> {
            ShadowTolls x = Checks.made("keeper 0 1439;" + ONE, "pay 5 if day<10;pay 4 if day>9;");
            C.same("the best minute", x.best(0, 0, 10, 0), 0);
            C.same("what it costs on day 9", x.best(0, 0, 9, 1), 5);
            C.same("the day of the lesser one", x.week(0, 0), 10);
            x = Checks.made("keeper 0 1439;traveller 100 10 1439 1439 9;", "pay 5 if not day=21;");
            C.same("the best minute", x.best(0, 0, 21, 0), 1439);
            C.same("what it costs", x.best(0, 0, 21, 1), 0);
            C.same("the day of the lesser one", x.week(0, 0), 21);
        });
        C.edge("Promise 14: of these the first", () -> {
            C.same("all alike", Checks.made(ONE, "pay 5;").week(0, 0), 0);
            C.same("days 3 and 29 alike", Checks.made(ONE + "feast 29;feast 3;", "pay 5-feast;").week(0, 0), 3);
        });
        C.edge("Promise 14: NONE", () -> {
            C.same("he comes ahead of the keeper", Checks.made("keeper 600 700;traveller 100 10 0 599 0;", "pay 5;").week(0, 0), -1);
            C.same("he comes behind him", Checks.made("keeper 600 700;second 0 0;traveller 100 10 701 800 0;", "pay 5;").week(1, 0), -1);
        });
    }

    private static ShadowTolls secondPays() {
        ShadowTolls x = Checks.made(ONE + "second 0 9;", "pay 5 if not day=8;", "pay 5 if not day=9;");
        x.law(1, 1);
        return x;
    }

    private static void told() {
        C.edge("Promise 6: lamp (0 without), whether there is shade, a second bridge (1, 0), TOLLS", () -> {
            ShadowTolls none = new ShadowTolls();
            ShadowTolls all = Checks.made("lamp 1;shade;second 0 0;", "", "", "", "", "");
            int[] due = {1, 1, 1, 4};
            for (int i = 0; i < 4; i++) {
                C.same("without " + (6 + i), none.told(6 + i), 0);
                C.same("with " + (6 + i), all.told(6 + i), due[i]);
            }
        });
        C.edge("Promise 7: the hat (0 without)", () -> {
            ShadowTolls x = Checks.made(ONE + ONE + "hat 1 99;");
            C.same("without", x.traveller(0, 5), 0);
            C.same("with", x.traveller(1, 5), 99);
        });
        C.edge("Promise 8: Noon of a DAY (what 0), whether it is a feast (1)", () -> {
            ShadowTolls x = Checks.made("sun 0 60;sun 29 5400;feast 29;");
            C.same("noon of day 0", x.day(0, 0), 60);
            C.same("noon of day 28", x.day(28, 0), 60);
            C.same("noon of day 29", x.day(29, 0), 5400);
            C.same("day 28 is none", x.day(28, 1), 0);
            C.same("day 29 is one", x.day(29, 1), 1);
        });
    }
}
