import java.nio.charset.StandardCharsets;

/** The edges of the tape and of the two texts: each sentence of Terms and of promises 1 to 5 that names one. */
public final class TextEdgeTest {
    private static final Checks C = new Checks("TextEdgeTest");
    private static final Class<IllegalArgumentException> ARGUMENT = IllegalArgumentException.class;
    private static final String ONE = "traveller 100 10 0 1439 0;";

    public static void main(String[] args) {
        newObject();
        feed();
        lengths();
        clauses();
        sun();
        fallsKeeperTakes();
        traveller();
        hatAndLies();
        otherClauses();
        lastCounts();
        tolls();
        values();
        conditions();
        letters();
        faultOne();
        faultTwo();
        faultThree();
        depth();
        firstFault();
        bridge();
        toll();
        fault();
        C.end();
    }

    private static ShadowTolls read(String text) {
        ShadowTolls x = new ShadowTolls();
        C.same("bridge of {" + text + "} is read", Checks.bridge(x, text) >= 0 ? 1 : 0, 1);
        C.same("no fault in {" + text + "}", x.fault(), -1);
        return x;
    }

    private static ShadowTolls readToll(String text) {
        ShadowTolls x = new ShadowTolls();
        C.same("toll of {" + text + "}", Checks.toll(x, text), 0);
        C.same("no fault in {" + text + "}", x.fault(), -1);
        return x;
    }

    private static void faulty(String text, int kind, int place) {
        ShadowTolls x = new ShadowTolls();
        C.same("bridge of {" + text + "}", Checks.bridge(x, text), kind - 10);
        C.same("place in {" + text + "}", x.fault(), place);
    }

    private static void faultyToll(String text, int kind, int place) {
        ShadowTolls x = new ShadowTolls();
        C.same("toll of {" + text + "}", Checks.toll(x, text), kind - 10);
        C.same("place in {" + text + "}", x.fault(), place);
        C.same("no toll of {" + text + "}", x.told(9), 0);
    }

    /** A number of a bridge's text: from least to greatest it is read, beyond them it is a fault at its first byte. */
    private static void bounds(String ahead, int least, int greatest, String behind) {
        read(ahead + least + behind);
        read(ahead + greatest + behind);
        read(ahead + "0000000000000000000" + greatest + behind);
        if (least > 0) {
            faulty(ahead + (least - 1) + behind, 2, ahead.length());
        }
        faulty(ahead + (greatest + 1) + behind, 2, ahead.length());
        faulty(ahead + (4294967296L + least) + behind, 2, ahead.length());
        faulty(ahead + "18446744073709551616" + behind, 2, ahead.length());
        faulty(ahead + "-1" + behind, 1, ahead.length());
    }

    /** COINS of one of height 100, weight 10 in minute 720 of day 3, when his shadow is 100. */
    private static int coinsBy(String law) {
        return Checks.made(ONE, law).coins(0, 0, 3, 720, false);
    }

    private static void holds(String condition) {
        C.same("{" + condition + "} holds", coinsBy("pay 5 if " + condition + ";"), 5);
        C.same("not {" + condition + "}", coinsBy("pay 5 if not [" + condition + "];"), 0);
    }

    private static void newObject() {
        C.edge("Promise 1: As by a BRIDGE without a text", () -> {
            ShadowTolls fresh = new ShadowTolls();
            ShadowTolls told = new ShadowTolls();
            C.same("a bridge without a text", told.bridge(0), 0);
            for (int what = 0; what < 10; what++) {
                C.same("told " + what, fresh.told(what), told.told(what));
            }
            for (int day = 0; day < 30; day++) {
                C.same("noon of day " + day, fresh.day(day, 0), told.day(day, 0));
                C.same("feast on day " + day, fresh.day(day, 1), told.day(day, 1));
            }
            C.same("slots", fresh.slots(), told.slots());
        });
        C.edge("Promise 1: As by a BRIDGE without a text: no CROSSINGS, BOOKS, LEDGER, IMAGES", () -> {
            ShadowTolls x = new ShadowTolls();
            sameCounts("new", x, 0, 0, 0, 0, 0);
            C.same("nothing to undo", x.undo(), -1);
            C.same("nothing to restore", x.restore(), -1);
            C.same("nothing stolen", x.stolen(29), 0);
            for (int day = 0; day < 30; day++) {
                C.same("nothing written of day " + day, x.write(day, 0), -1);
            }
        });
        C.edge("Promise 1: no TOLLS", () -> C.same("tolls", new ShadowTolls().told(9), 0));
        C.edge("Promise 3: the BRIDGE: all that an empty text tells nothing of is as without it", () -> {
            ShadowTolls x = new ShadowTolls();
            Checks.bridge(x, "sun 0 60;falls 9;keeper 0 1;takes 1;" + ONE + "hat 0 9;lies 0 9;feast 0;cloud 16;second 60 99;lamp 1;shade;");
            Checks.bridge(x, "sun 0 60;falls 9;keeper 0 1;takes 1;" + ONE + "hat 0 9;lies 0 10;feast 0;cloud 16;second 60 99;lamp 1;shade;");
            C.same("an empty bridge", x.bridge(0), 0);
            int[] due = {0, 4, 360, 1080, 30, 0, 0, 0, 0, 0};
            for (int what = 0; what < due.length; what++) {
                C.same("told " + what, x.told(what), due[what]);
            }
            C.same("noon", x.day(0, 0), 2700);
            C.same("feast", x.day(0, 1), 0);
            C.same("one traveller", Checks.bridge(x, ONE), 1);
            C.same("no hat any more", x.traveller(0, 5), 0);
            C.same("does not lie any more", x.traveller(0, 6), 0);
        });
    }

    private static void feed() {
        C.edge("Promise 2: Twenty bytes come on the TAPE, of each number the highest first", () -> {
            byte[] b = "pay weight if day=3;".getBytes(StandardCharsets.US_ASCII);
            int[] five = new int[5];
            for (int i = 0; i < 20; i++) {
                five[i / 4] |= b[i] << 24 - 8 * (i % 4);
            }
            ShadowTolls x = new ShadowTolls();
            Checks.bridge(x, ONE);
            C.same("twenty", x.feed(five[0], five[1], five[2], five[3], five[4]), 20);
            C.same("in their order", x.toll(20), 0);
            C.same("on day 3", x.coins(0, 0, 3, 0, false), 10);
            C.same("on day 4", x.coins(0, 0, 4, 0, false), 0);
        });
        C.edge("Promise 2: a byte of 128 and more of a number below 0 is no other byte", () -> {
            ShadowTolls x = new ShadowTolls();
            x.feed('p' << 24 | 'a' << 16 | 'y' << 8 | 0xB7, -1, 0, 0, 0);
            C.same("0xB7 is not 7", x.toll(4), -9);
            C.same("at it", x.fault(), 3);
            x.feed(0xA0A0A0A0, 0, 0, 0, 0);
            C.same("0xA0 is no blank", x.bridge(4), -9);
            C.same("at it", x.fault(), 0);
        });
        C.edge("Promise 2: how many there are", () -> {
            ShadowTolls x = new ShadowTolls();
            for (int i = 1; i <= 25; i++) {
                C.same("feed " + i, x.feed(0, 0, 0, 0, 0), 20 * i);
            }
        });
        C.edge("Promise 2: NONE, doing nothing, if there would be more than 500", () -> {
            ShadowTolls x = new ShadowTolls();
            Checks.feed(x, "shade;" + " ".repeat(493) + ";");
            C.same("full", x.count(4), 500);
            for (int i = 0; i < 3; i++) {
                C.same("no more", x.feed(0x20202020, -1, -1, -1, Integer.MIN_VALUE), -1);
                C.same("still full", x.count(4), 500);
            }
            C.same("the text ahead as it was", x.bridge(500), -9);
            C.same("its last byte", x.fault(), 499);
            C.same("room again", x.feed(0, 0, 0, 0, 0), 20);
        });
    }

    private static void behindTheText(String text, boolean toll, int n) {
        ShadowTolls x = fed(text);
        C.same(n + " bytes of {" + text + "}", textOf(x, toll, n), -9);
        C.same("its place", x.fault(), n);
    }

    private static void lengths() {
        C.edge("Promise 3: The first n bytes of the TAPE: what is behind them is none of the text", () -> {
            behindTheText("shade;", false, 5);
            behindTheText("takes 7;", false, 7);
            behindTheText("takes 77;", false, 7);
            behindTheText("takesx", false, 5);
            behindTheText("takes ", false, 5);
            behindTheText("shade   ;", false, 6);
            C.same("a clause behind it", fed("takes 7;rain").bridge(8), 0);
            C.same("a number that would go on", fed("pay 1;0").toll(6), 0);
            behindTheText("pay 1;", true, 5);
            behindTheText("pay 10;", true, 5);
            behindTheText("pay (1);", true, 6);
            behindTheText("pay 1+1;", true, 6);
            behindTheText("pay 1 if 1<2;", true, 10);
            behindTheText("pay 1 if 1<2;", true, 8);
        });
        C.edge("Terms: TWO TEXTS of up to 500 bytes, a bridge of 500", () -> {
            C.same("the last byte counts", read("shade" + " ".repeat(494) + ";").told(7), 1);
            C.same("no byte to spare", read("takes 7;falls " + "0".repeat(484) + "3;").told(1), 3);
            faulty("shade;" + " ".repeat(493) + "x", 1, 499);
            faulty("shade" + " ".repeat(495), 1, 500);
        });
        C.edge("Terms: TWO TEXTS of up to 500 bytes, a toll of 500", () -> {
            C.same("248 ones", coinsBy("pay 1" + "+1".repeat(247) + ";"), 248);
            C.same("the last byte counts", coinsBy("pay 7" + " ".repeat(494) + ";"), 7);
            C.same("70 comparisons", coinsBy("pay 5 if " + "1<2 or ".repeat(69) + "1=2    ;"), 5);
            faultyToll("pay 1;" + " ".repeat(493) + "x", 1, 499);
            faultyToll("pay 1" + " ".repeat(495), 1, 500);
        });
        C.edge("Terms: TWO TEXTS of up to 500 bytes, none of them", () -> {
            C.same("a bridge", new ShadowTolls().bridge(0), 0);
            C.same("a toll", new ShadowTolls().toll(0), 0);
            C.same("a bridge of blanks", read(" ".repeat(500)).told(0), 0);
            C.same("a toll of blanks", readToll(" ".repeat(500)).told(9), 1);
        });
    }

    private static void clauses() {
        C.edge("Terms: { CLAUSE \";\" }, at most 40", () -> {
            C.same("the 40th counts", read("shade;".repeat(39) + "takes 9;").told(4), 9);
            faulty("shade;".repeat(40) + "takes 9;", 3, 240);
            faulty("shade;".repeat(40) + "   takes 9;", 3, 243);
            faulty("shade;".repeat(40) + "takes", 3, 240);
        });
        C.edge("Terms: eight at most", () -> {
            ShadowTolls x = read("traveller 50 1 0 0 0;".repeat(7) + "traveller 51 2 3 4 5;lies 7 10;");
            C.same("the eighth", x.traveller(7, 0), 51);
            C.same("lies", x.traveller(7, 6), 10);
            faulty("traveller 50 1 0 0 0;".repeat(8) + "traveller 50 1 0 0 0;", 3, 168);
            faulty("traveller 50 1 0 0 0;".repeat(8) + "  traveller", 3, 170);
            faulty("traveller 50 1 0 0 0;".repeat(8) + "travellers", 1, 168);
        });
        C.edge("Terms: TRAVELLERS 0, 1, ..", () -> {
            ShadowTolls x = read("traveller 60 1 0 0 0;traveller 61 1 0 0 0;traveller 62 1 0 0 0;");
            for (int k = 0; k < 3; k++) {
                C.same("traveller " + k, x.traveller(k, 0), 60 + k);
            }
        });
    }

    private static void sun() {
        C.edge("Terms: from DAY D on, 0 to 29", () -> {
            bounds("sun ", 0, 29, " 60;");
            ShadowTolls x = read("sun 29 60;sun 0 61;");
            C.same("from day 0 on", x.day(0, 0), 61);
            C.same("to day 28", x.day(28, 0), 61);
            C.same("day 29", x.day(29, 0), 60);
        });
        C.edge("Terms: the sun stands N minutes of arc high at noon, 60 to 5,400", () -> {
            bounds("sun 7 ", 60, 5400, ";");
            C.same("the least", read("sun 7 60;").day(7, 0), 60);
            C.same("the greatest", read("sun 7 5400;").day(7, 0), 5400);
        });
        C.edge("Terms: before any: 2,700", () -> {
            ShadowTolls x = read("sun 29 60;");
            C.same("day 0", x.day(0, 0), 2700);
            C.same("day 28", x.day(28, 0), 2700);
            C.same("without any", read("shade;").day(29, 0), 2700);
        });
    }

    private static void fallsKeeperTakes() {
        C.edge("Terms: 1 to 9 for each MINUTE from noon; 4 without", () -> {
            bounds("falls ", 1, 9, ";");
            C.same("the least", read("falls 1;").altitude(0, 0, 719), 2699);
            C.same("the greatest", read("falls 9;").altitude(0, 0, 721), 2691);
            C.same("without", read("").altitude(0, 0, 719), 2696);
            C.same("without", read("").told(1), 4);
        });
        C.edge("Terms: open from MINUTE F, 0 to 1,438", () -> {
            bounds("keeper ", 0, 1438, " 1439;");
            C.same("the least", read("keeper 0 1439;").told(2), 0);
            C.same("the greatest", read("keeper 1438 1439;").told(2), 1438);
        });
        C.edge("Terms: to T, above F", () -> {
            bounds("keeper 600 ", 601, 1439, ";");
            faulty("keeper 600 600;", 2, 11);
            C.same("the least", read("keeper 0 1;").told(3), 1);
            C.same("the greatest", read("keeper 0 1439;").told(3), 1439);
        });
        C.edge("Terms: 360, 1,080 without", () -> {
            C.same("from", read("").told(2), 360);
            C.same("to", read("").told(3), 1080);
        });
        C.edge("Terms: 1 to 60 MINUTES for a crossing; 30 without", () -> {
            bounds("takes ", 1, 60, ";");
            C.same("the least", read("takes 1;").told(4), 1);
            C.same("the greatest", read("takes 60;").told(4), 60);
            C.same("without", read("").told(4), 30);
        });
    }

    private static void traveller() {
        C.edge("Terms: HEIGHT 50 to 400", () -> {
            bounds("traveller ", 50, 400, " 1 0 0 0;");
            C.same("the least", read("traveller 50 1 0 0 0;").traveller(0, 0), 50);
            C.same("the greatest", read("traveller 400 1 0 0 0;").traveller(0, 0), 400);
        });
        C.edge("Terms: WEIGHT 1 to 999", () -> {
            bounds("traveller 50 ", 1, 999, " 0 0 0;");
            C.same("the least", read("traveller 50 1 0 0 0;").traveller(0, 1), 1);
            C.same("the greatest", read("traveller 50 999 0 0 0;").traveller(0, 1), 999);
        });
        C.edge("Terms: MINUTES 0 to 1,439", () -> {
            bounds("traveller 50 1 ", 0, 1439, " 1439 0;");
            C.same("the least", read("traveller 50 1 0 1439 0;").traveller(0, 2), 0);
            C.same("the greatest", read("traveller 50 1 1439 1439 0;").traveller(0, 2), 1439);
        });
        C.edge("Terms: F no more than T", () -> {
            bounds("traveller 50 1 700 ", 700, 1439, " 0;");
            bounds("traveller 50 1 0 ", 0, 1439, " 0;");
            C.same("F itself", read("traveller 50 1 700 700 0;").traveller(0, 3), 700);
            C.same("the greatest", read("traveller 50 1 0 1439 0;").traveller(0, 3), 1439);
        });
        C.edge("Terms: COSTS C, 0 to 9", () -> {
            bounds("traveller 50 1 0 0 ", 0, 9, ";");
            C.same("the least", read("traveller 50 1 0 0 0;").traveller(0, 4), 0);
            C.same("the greatest", read("traveller 50 1 0 0 9;").traveller(0, 4), 9);
        });
    }

    private static void hatAndLies() {
        C.edge("Terms: TRAVELLER K is N higher, 1 to 99", () -> {
            bounds(ONE + "hat 0 ", 1, 99, ";");
            C.same("the least", read(ONE + "hat 0 1;").traveller(0, 5), 1);
            C.same("the greatest", read(ONE + "hat 0 99;").traveller(0, 5), 99);
            C.same("the height stays", read(ONE + "hat 0 99;").traveller(0, 0), 100);
        });
        C.edge("Terms: K can lie: HEIGHT N, 10 to 400", () -> {
            bounds(ONE + "lies 0 ", 10, 400, ";");
            C.same("the least", read(ONE + "lies 0 10;").traveller(0, 6), 10);
            C.same("the greatest", read(ONE + "lies 0 400;").traveller(0, 6), 400);
            C.same("the weight stays", read(ONE + "lies 0 400;").traveller(0, 1), 10);
        });
        C.edge("Terms: K told ahead, of hat", () -> {
            faulty("hat 0 9;", 2, 4);
            faulty("hat 0 9;" + ONE, 2, 4);
            bounds(ONE + "hat ", 0, 0, " 9;");
            bounds(ONE + ONE + "hat ", 0, 1, " 9;");
            faulty(ONE + "hat 1 9;" + ONE, 2, 30);
            bounds("traveller 50 1 0 0 0;".repeat(8) + "hat ", 0, 7, " 9;");
        });
        C.edge("Terms: K told ahead, of lies", () -> {
            faulty("lies 0 40;", 2, 5);
            faulty("lies 0 40;" + ONE, 2, 5);
            bounds(ONE + "lies ", 0, 0, " 40;");
            bounds(ONE + ONE + "lies ", 0, 1, " 40;");
            faulty(ONE + "lies 1 40;" + ONE, 2, 31);
            bounds("traveller 50 1 0 0 0;".repeat(8) + "lies ", 0, 7, " 40;");
        });
    }

    private static void otherClauses() {
        C.edge("Terms: \"feast\" D", () -> {
            bounds("feast ", 0, 29, ";");
            ShadowTolls x = read("feast 0;feast 29;feast 29;");
            C.same("day 0", x.day(0, 1), 1);
            C.same("day 1", x.day(1, 1), 0);
            C.same("day 28", x.day(28, 1), 0);
            C.same("day 29", x.day(29, 1), 1);
        });
        C.edge("Terms: of 16 in each HOUR, 0 to 16; 0 without", () -> {
            bounds("cloud ", 0, 16, ";");
            C.same("the least", read("cloud 16;cloud 0;").told(5), 0);
            C.same("the greatest", read("cloud 16;").told(5), 16);
            C.same("without", read("").told(5), 0);
        });
        C.edge("Terms: it is noon E MINUTES earlier, 0 to 60", () -> {
            bounds("second ", 0, 60, " 9;");
            C.same("the least", read("second 0 9;").altitude(1, 0, 720), 2700);
            C.same("the greatest", read("second 60 9;").altitude(1, 0, 660), 2700);
        });
        C.edge("Terms: to go there COSTS D, 0 to 99", () -> {
            bounds("second 9 ", 0, 99, ";");
            C.same("the least", read("second 9 0;" + ONE).best(1, 0, 0, 1), 0);
            C.same("the greatest", read("second 9 99;" + ONE).best(1, 0, 0, 1), 99);
        });
        C.edge("Terms: \"lamp\" A (1 to 5,400)", () -> {
            bounds("lamp ", 1, 5400, ";");
            C.same("the least", read("lamp 1;").told(6), 1);
            C.same("the greatest", read("lamp 5400;").told(6), 5400);
            C.same("0 without", read("").told(6), 0);
        });
        C.edge("Terms: or \"shade\"", () -> {
            C.same("shade", read("shade;").told(7), 1);
            C.same("twice", read("shade;shade;").told(7), 1);
            C.same("without", read("").told(7), 0);
            faulty("shade 1;", 1, 6);
        });
    }

    private static void lastCounts() {
        C.edge("Terms: Of sun of one DAY the last counts", () -> {
            ShadowTolls x = read("sun 9 300;sun 5 100;sun 5 200;");
            C.same("day 4", x.day(4, 0), 2700);
            C.same("day 5", x.day(5, 0), 200);
            C.same("day 8", x.day(8, 0), 200);
            C.same("day 9, told ahead of day 5", x.day(9, 0), 300);
        });
        C.edge("Terms: Of hat of one TRAVELLER the last counts", () -> {
            ShadowTolls x = read(ONE + ONE + "hat 0 5;hat 1 7;hat 0 3;");
            C.same("the last of 0", x.traveller(0, 5), 3);
            C.same("that of 1", x.traveller(1, 5), 7);
        });
        C.edge("Terms: Of lies of one TRAVELLER the last counts", () -> {
            ShadowTolls x = read(ONE + ONE + "lies 0 50;lies 1 70;lies 0 30;");
            C.same("the last of 0", x.traveller(0, 6), 30);
            C.same("that of 1", x.traveller(1, 6), 70);
        });
        lastOf("falls", 1, "falls 9;falls 2;", 2);
        lastOf("keeper", 2, "keeper 500 600;keeper 100 200;", 100);
        lastOf("keeper", 3, "keeper 500 600;keeper 100 200;", 200);
        lastOf("takes", 4, "takes 60;takes 2;", 2);
        lastOf("cloud", 5, "cloud 9;cloud 2;", 2);
        lastOf("lamp", 6, "lamp 900;lamp 200;", 200);
        C.edge("Terms: Of second the last counts", () -> {
            ShadowTolls x = read(ONE + "second 60 99;second 10 3;");
            C.same("its noon", x.altitude(1, 0, 710), 2700);
            C.same("its way", x.best(1, 0, 0, 1), 3);
        });
    }

    private static void lastOf(String word, int what, String text, int due) {
        C.edge("Terms: Of " + word + " the last counts (told " + what + ")", () -> C.same(text, read(text).told(what), due));
    }

    private static void tolls() {
        C.edge("Terms: { ROW \";\" }, at most 10", () -> {
            C.same("none", coinsBy(""), 0);
            C.same("the tenth counts", coinsBy("pay 1;".repeat(9) + "pay 90;"), 99);
            faultyToll("pay 1;".repeat(10) + "pay 1;", 3, 60);
            faultyToll("pay 1;".repeat(10) + "  pay", 3, 62);
        });
        C.edge("Terms: N (0 to 9,999)", () -> {
            C.same("the least", coinsBy("pay 0;"), 0);
            C.same("the greatest", coinsBy("pay 9999;"), 9999);
            C.same("more digits", coinsBy("pay 000000000000000009999;"), 9999);
            faultyToll("pay 10000;", 2, 4);
            faultyToll("pay 4294967297;", 2, 4);
            faultyToll("pay 18446744073709551617;", 2, 4);
            faultyToll("pay -1;", 1, 4);
            faultyToll("pay 1 if 1<10000;", 2, 11);
        });
        C.edge("Terms: TOLLS are numbered from 0 on, 4 at most", () -> {
            ShadowTolls x = new ShadowTolls();
            for (int i = 0; i < 4; i++) {
                C.same("toll " + i, Checks.toll(x, "pay 1" + i + ";"), i);
                C.same("so many", x.told(9), i + 1);
            }
            C.same("a fifth", Checks.toll(x, "pay 14;"), -1);
            C.same("four", x.told(9), 4);
            Checks.bridge(x, ONE);
            for (int i = 0; i < 4; i++) {
                x.law(0, i);
                C.same("coins by " + i, x.coins(0, 0, 0, 0, false), 10 + i);
            }
        });
    }

    private static void values() {
        String max = "(2048*1024*1024-1)";
        String min = "(2048*1024*1024)";
        C.edge("Terms: VALUES of E are whole numbers of 32 bits that wrap, +", () -> {
            holds(max + ">0 and " + max + "+1=" + min + " and " + max + "+1<0");
            holds(max + "+" + max + "=0-2");
            holds(min + "+" + min + "=0");
        });
        C.edge("Terms: VALUES of E are whole numbers of 32 bits that wrap, -", () -> {
            holds(min + "-1=" + max + " and " + min + "-1>0");
            holds("0-" + min + "=" + min);
            holds("0-2-" + max + "=" + max);
        });
        C.edge("Terms: VALUES of E are whole numbers of 32 bits that wrap, *", () -> {
            holds("9999*9999*9999=0-1027*1000*1000-349*1000-969");
            holds("2048*1024*1024<0 and 2048*1024*1024*2=0");
            holds(max + "*" + max + "=1");
            holds(min + "*(0-1)=" + min);
        });
        C.edge("Terms: / cuts", () -> {
            holds("7/2=3 and (0-7)/2=0-3 and 7/(0-2)=0-3 and (0-7)/(0-2)=3");
            holds("1/2=0 and (0-1)/2=0 and 1/9999=0");
        });
        C.edge("Terms: / wraps", () -> holds(min + "/(0-1)=" + min));
        C.edge("Terms: by 0 it is 0", () -> {
            holds("5/0=0 and 0/0=0 and (0-5)/0=0 and " + min + "/0=0");
            C.same("by feast, which is none", coinsBy("pay 9/feast+4;"), 4);
            C.same("by a difference", coinsBy("pay 9/(weight-10)+4;"), 4);
            C.same("and goes on", coinsBy("pay 8/0*3+8/0/2+6;"), 6);
        });
        C.edge("Terms: T { + or - T }, U { * or / U }: from the left", () -> {
            C.same("-", coinsBy("pay 20-3-4;"), 13);
            C.same("/", coinsBy("pay 100/3/3;"), 11);
            C.same("/ and *", coinsBy("pay 7/2*2;"), 6);
            C.same("* ahead of +", coinsBy("pay 1+2*3-8/4;"), 5);
        });
    }

    private static void conditions() {
        C.edge("Terms: R: <, > or =, of equals", () -> {
            C.same("<", coinsBy("pay 1 if 3<3;"), 0);
            C.same(">", coinsBy("pay 1 if 3>3;"), 0);
            C.same("=", coinsBy("pay 1 if 3=3;"), 1);
        });
        C.edge("Terms: R: <, > or =, one apart", () -> {
            C.same("<", coinsBy("pay 1 if 2<3;pay 2 if 3<2;"), 1);
            C.same(">", coinsBy("pay 1 if 3>2;pay 2 if 2>3;"), 1);
            C.same("=", coinsBy("pay 1 if 2=3;pay 2 if 3=2;"), 0);
        });
        C.edge("Terms: or, and: both sides are worked", () -> {
            holds("1=1 or 5/0=7");
            holds("5/0=0 and 1=1");
            C.same("the left decides nothing alone", coinsBy("pay 5 if 1=2 and 5/0=0;pay 7 if 1=1 or 5/0=0;"), 7);
        });
        C.edge("Terms: D { \"or\" D }, B { \"and\" B }", () -> {
            C.same("or", coinsBy("pay 1 if 1=2 or 1=2;pay 2 if 1=1 or 1=2;pay 4 if 1=2 or 1=1;pay 8 if 1=1 or 1=1;"), 14);
            C.same("and", coinsBy("pay 1 if 1=2 and 1=2;pay 2 if 1=1 and 1=2;pay 4 if 1=2 and 1=1;pay 8 if 1=1 and 1=1;"), 8);
            C.same("and binds more", coinsBy("pay 1 if 1=1 or 1=1 and 1=2;pay 2 if 1=2 and 1=1 or 1=1;pay 4 if 1=2 and [1=1 or 1=1];"), 3);
        });
    }

    private static void letters() {
        C.edge("Terms: Numbers: digits, as many as stand there", () -> {
            C.same("seven", read("takes 0000007;").told(4), 7);
            C.same("a letter ends it", readToll("pay 1if 1<2;").told(9), 1);
            faulty("takes 6 0;", 1, 8);
            faulty("takes 6:;", 1, 7);
            faulty("takes 6/;", 1, 7);
            faulty("takes :;", 1, 6);
            faulty("takes /;", 1, 6);
        });
        C.edge("Terms: WORDS: small letters, as many as stand there", () -> {
            C.same("a number ends it", read("takes7;").told(4), 7);
            faulty("shadex;", 1, 0);
            faulty("sha de;", 1, 0);
            faulty("shadea;", 1, 0);
            faulty("shadez;", 1, 0);
            faulty("zshade;", 1, 0);
            faulty("shade`;", 1, 5);
            faulty("shade{;", 1, 5);
            faulty("shadeX;", 1, 5);
            faulty("SHADE;", 1, 0);
            faulty("Shade;", 1, 0);
            faultyToll("paypay;", 1, 0);
            faultyToll("payshadow;", 1, 0);
            faultyToll("pay shadowif 1<2;", 1, 4);
            faultyToll("pay shad ow;", 1, 4);
        });
        C.edge("Terms: blanks (32) may stand ahead of all these, and at the end", () -> {
            ShadowTolls x = read("  sun   3   60  ;  traveller  50  1  2  3  4  ;  hat  0  5 ;shade  ;   ");
            C.same("sun", x.day(3, 0), 60);
            C.same("traveller", x.traveller(0, 4), 4);
            C.same("hat", x.traveller(0, 5), 5);
            C.same("toll", coinsBy("  pay  (  shadow  +  1  )  *  2  /  2  -  1  if  not  [  1  <  2  and  2  >  3  or  1  =  2  ]  ;  "), 100);
            C.same("none at all", coinsBy("pay(shadow+1)*2/2-1if not[1<2and 2>3or 1=2];"), 100);
        });
        C.edge("Terms: blanks (32), and nothing else", () -> {
            for (int c : new int[] {0, 9, 10, 13, 31, 33, 127, 128, 160, 255}) {
                faulty("shade" + (char) c + ";", 1, 5);
                faulty((char) c + "shade;", 1, 0);
                faulty("shade;" + (char) c, 1, 6);
                faultyToll("pay" + (char) c + "1;", 1, 3);
                faultyToll("pay 1;" + (char) c, 1, 6);
            }
        });
    }

    private static void faultOne() {
        C.edge("Terms: 1 what can't stand there, in a bridge", () -> {
            faulty("1;", 1, 0);
            faulty("rain 1;", 1, 0);
            faulty(";", 1, 0);
            faulty("shade;;", 1, 6);
            faulty("shade shade;", 1, 6);
            faulty("falls;", 1, 5);
            faulty("falls x;", 1, 6);
            faulty("falls 1 2;", 1, 8);
            faulty("sun 1,60;", 1, 5);
            faulty("pay 1;", 1, 0);
        });
        C.edge("Terms: 1 what can't stand there, in a toll", () -> {
            faultyToll("1;", 1, 0);
            faultyToll("shade;", 1, 0);
            faultyToll(";", 1, 0);
            faultyToll("pay 1;;", 1, 6);
            faultyToll("pay;", 1, 3);
            faultyToll("pay pay;", 1, 4);
            faultyToll("pay hat;", 1, 4);
            faultyToll("pay 1 1;", 1, 6);
            faultyToll("pay 1 if;", 1, 8);
            faultyToll("pay 1 if 1;", 1, 10);
            faultyToll("pay 1 if 1<;", 1, 11);
            faultyToll("pay 1 if 1<2 if 1<2;", 1, 13);
            faultyToll("pay 1 if 1<2 not 1<2;", 1, 13);
            faultyToll("pay 1 if (1<2);", 1, 11);
            faultyToll("pay 1 if [1];", 1, 11);
            faultyToll("pay [1];", 1, 4);
            faultyToll("pay ();", 1, 5);
            faultyToll("pay (1];", 1, 6);
            faultyToll("pay 1 if [1<2);", 1, 13);
            faultyToll("pay 1 if 1<=2;", 1, 11);
            faultyToll("pay 1 and 1;", 1, 6);
            faultyToll("pay -1;", 1, 4);
            faultyToll("pay not 1;", 1, 4);
        });
        C.edge("Terms: at the length, if the text ends too early, in a bridge", () -> {
            for (String s : new String[] {"sun", "sun 0", "sun 0 60", "falls", "falls 1", "keeper", "keeper 1", "keeper 1 2", "takes", "takes 1",
                "traveller", "traveller 50", "traveller 50 1", "traveller 50 1 0", "traveller 50 1 0 0", "traveller 50 1 0 0 0", ONE + "hat",
                ONE + "hat 0", ONE + "hat 0 1", ONE + "lies", ONE + "lies 0", ONE + "lies 0 10", "feast", "feast 1", "cloud", "cloud 1",
                "second", "second 0", "second 0 0", "lamp", "lamp 1", "shade", "shade;shade"}) {
                faulty(s, 1, s.length());
                faulty(s + "  ", 1, s.length() + 2);
            }
        });
        C.edge("Terms: at the length, if the text ends too early, in a toll", () -> {
            for (String s : new String[] {"pay", "pay (", "pay (1", "pay (1+", "pay 1", "pay 1+", "pay 1-", "pay 1*", "pay 1/", "pay shadow", "pay 1 if",
                "pay 1 if not", "pay 1 if [", "pay 1 if 1", "pay 1 if 1<", "pay 1 if 1<2", "pay 1 if 1<2 or", "pay 1 if 1<2 and", "pay 1 if [1<2",
                "pay 1 if [1<2]", "pay 1;pay"}) {
                faultyToll(s, 1, s.length());
                faultyToll(s + "  ", 1, s.length() + 2);
            }
        });
        C.edge("Terms: a word that the text's end cuts is another word", () -> {
            faulty("shad", 1, 0);
            faulty("shade;take", 1, 6);
            faultyToll("pa", 1, 0);
            faultyToll("pay 1 i", 1, 6);
            faultyToll("pay shado", 1, 4);
        });
    }

    private static void faultTwo() {
        C.edge("Terms: 2 a number that is none such, however many its digits", () -> {
            for (String n : new String[] {"61", "100", "65537", "2147483648", "4294967297", "18446744073709551617", "9".repeat(300), "1" + "0".repeat(300)}) {
                faulty("takes " + n + ";", 2, 6);
            }
            for (String n : new String[] {"10000", "65537", "2147483648", "4294967297", "18446744073709551617", "9".repeat(300), "1" + "0".repeat(300)}) {
                faultyToll("pay " + n + ";", 2, 4);
            }
        });
        C.edge("Terms: 2 a number that is none such, also at the text's end", () -> {
            faulty("takes 61", 2, 6);
            faulty("takes    0", 2, 9);
            faultyToll("pay 10000", 2, 4);
        });
    }

    private static void faultThree() {
        C.edge("Terms: 3 a CLAUSE too many (at its word)", () -> {
            faulty("shade;".repeat(40) + "    shade;", 3, 244);
            faulty(" shade;".repeat(40) + "sun 99 99;", 3, 280);
        });
        C.edge("Terms: 3 a TRAVELLER too many (at its word)", () -> {
            faulty("traveller 50 1 0 0 0;".repeat(8) + "shade;  traveller 1 1 1 1 1;", 3, 176);
            faulty("traveller 50 1 0 0 0;".repeat(8) + "shade;".repeat(32) + "traveller 50 1 0 0 0;", 3, 360);
        });
        C.edge("Terms: 3 a ROW too many (at its word)", () -> {
            faultyToll("pay 1;".repeat(10) + "    pay 1;", 3, 64);
            faultyToll("pay 1 if 1<2;".repeat(10) + "pay 99999;", 3, 130);
        });
    }

    private static void depth() {
        C.edge("Terms: 3 a 7th of ( that is open at one time", () -> {
            C.same("six", coinsBy("pay ((((((8))))));"), 8);
            faultyToll("pay (((((((8)))))));", 3, 10);
            faultyToll("pay 1 if 1<(((((((", 3, 17);
        });
        C.edge("Terms: 3 a 7th of [ that is open at one time", () -> {
            C.same("six", coinsBy("pay 8 if [[[[[[1<2]]]]]];"), 8);
            faultyToll("pay 8 if [[[[[[[1<2]]]]]]];", 3, 15);
        });
        C.edge("Terms: 3 a 7th of not that is open at one time", () -> {
            C.same("six", coinsBy("pay 8 if not not not not not not 1<2;"), 8);
            faultyToll("pay 8 if not not not not not not not 1<2;", 3, 33);
        });
        C.edge("Terms: 3 a 7th of ( [ and not together", () -> {
            C.same("six", coinsBy("pay 8 if not [not [not (1)=2]];"), 8);
            C.same("six", coinsBy("pay 8 if [not [[((1))=2 or 1=2]]];"), 8);
            faultyToll("pay 8 if [[[[[[(1)<2]]]]]];", 3, 15);
            faultyToll("pay 8 if [[[[[[1<(2)]]]]]];", 3, 17);
            faultyToll("pay 8 if [[[[[[not 1<2]]]]]];", 3, 15);
            faultyToll("pay 8 if not not not not not not [1<2];", 3, 33);
            faultyToll("pay 8 if not not not not not not (1)<2;", 3, 33);
            faultyToll("pay 8 if not not not not not [(1)<2];", 3, 30);
        });
        C.edge("Terms: open at one time: what is closed does not count", () -> {
            C.same("(", coinsBy("pay (1)+(1)+(1)+(1)+(1)+(1)+(1)+(1);"), 8);
            C.same("[", coinsBy("pay 8 if [1<2] and [1<2] and [1<2] and [1<2] and [1<2] and [1<2] and [1<2];"), 8);
            C.same("six, then six", coinsBy("pay ((((((1))))))+((((((7))))));"), 8);
            C.same("six in E, then six in C", coinsBy("pay ((((((8)))))) if [[[[[[1<2]]]]]] or ((((((1))))))=((((((1))))));"), 8);
            C.same("a row's do not stay open", coinsBy("pay ((((((1))))));pay ((((((7)))))) if not not not not not not 1<2;pay (0);"), 8);
            faultyToll("pay (((1)))+(((((((1)))))));", 3, 18);
        });
        C.edge("Terms: a not till its B ends", () -> {
            C.same("seven that follow", coinsBy("pay 8 if not 1=2 and not 1=2 and not 1=2 and not 1=2 or not 1=2 and not 1=2 and not 1=2;"), 8);
            C.same("six, then one", coinsBy("pay 8 if not not not not not not 1=1 and not 1=2;"), 8);
            C.same("ended", coinsBy("pay 8 if not 1=2 and ((((((1))))))=1;"), 8);
            faultyToll("pay 8 if not ((((((1))))))=2;", 3, 18);
            faultyToll("pay 8 if not 1=((((((1))))));", 3, 20);
            faultyToll("pay 8 if not [[[[[[1=2]]]]]];", 3, 18);
            C.same("five", coinsBy("pay 8 if not 2=(((((1)))));"), 8);
        });
    }

    private static void firstFault() {
        C.edge("Terms: FAULTS, the first from the left", () -> {
            faulty("takes 0;suns", 2, 6);
            faulty("suns;takes 0;", 1, 0);
            faulty("takes 61 61;", 2, 6);
            faulty("keeper 5 5;takes 0;", 2, 9);
            faulty("takes 0;" + "shade;".repeat(40), 2, 6);
            faulty("traveller 50 1 0 0 0;".repeat(9) + "takes 0;", 3, 168);
            faultyToll("pay 10000 if;", 2, 4);
            faultyToll("pay 1 if 1;pay 10000;", 1, 10);
            faultyToll("pay (((((((10000;", 3, 10);
            faultyToll("pay 10000+(((((((1)))))));", 2, 4);
        });
        C.edge("Terms: at its first byte", () -> {
            faulty("shade;   rain;", 1, 9);
            faulty("takes    99;", 2, 9);
            faulty("takes    x;", 1, 9);
            faulty("shade    x;", 1, 9);
            faulty("keeper 500    0400;", 2, 14);
            faultyToll("pay     10000;", 2, 8);
            faultyToll("pay 1     iff 1<2;", 1, 10);
            faultyToll("pay 1 if     nott 1<2;", 1, 13);
            faultyToll("pay ((((((    (1;", 3, 14);
            faultyToll("pay 1 if [[[[[[    [1;", 3, 19);
            faultyToll("pay 1 if [[[[[[    not 1;", 3, 19);
        });
        C.edge("Terms: of one the least", () -> {
            faulty("shade;".repeat(40) + "shades;", 1, 240);
            faulty("shade;".repeat(40) + ";", 1, 240);
            faulty("shade;".repeat(40) + "7;", 1, 240);
            faultyToll("pay 1;".repeat(10) + "pays 1;", 1, 60);
            faultyToll("pay 1;".repeat(10) + "7;", 1, 60);
            faulty("takes 1 99999;", 1, 8);
            faultyToll("pay 1 99999;", 1, 6);
            faultyToll("pay 1 if [[[[[[1(1", 1, 16);
            faultyToll("pay ((((((1(1", 1, 11);
            faultyToll("pay (((((([1<2", 1, 10);
            faultyToll("pay ((((((not", 1, 10);
        });
    }

    private static ShadowTolls busy() {
        ShadowTolls x = Checks.made(ONE + "second 0 0;sun 3 60;", "pay 1;", "pay 2;");
        x.law(0, 1);
        x.law(1, 1);
        x.cross(0, 0, 3, 720);
        x.write(3, 1);
        x.ledger(1, 1);
        x.image();
        x.image();
        return x;
    }

    private static void sameCounts(String when, ShadowTolls x, int... due) {
        for (int what = 0; what < due.length; what++) {
            C.same(when + ", count " + what, x.count(what), due[what]);
        }
    }

    private static void bridge() {
        C.edge("Promise 3: The first n bytes of the TAPE (empty then)", () -> {
            ShadowTolls x = new ShadowTolls();
            Checks.feed(x, "takes 5;takes 6;rain");
            C.same("the first 8", x.bridge(8), 0);
            C.same("takes", x.told(4), 5);
            C.same("the others are gone", x.count(4), 0);
            C.same("new ones come first", Checks.bridge(x, "takes 7;"), 0);
            C.same("takes", x.told(4), 7);
            Checks.feed(x, "takes 5;");
            C.same("none of them", x.bridge(0), 0);
            C.same("gone too", x.count(4), 0);
        });
        C.edge("Promise 3: CROSSINGS, BOOKS, LEDGER, IMAGES gone", () -> {
            ShadowTolls x = busy();
            sameCounts("ahead", x, 1, 1, 1, 2, 0);
            C.same("a bridge", Checks.bridge(x, ONE + "second 0 0;"), 1);
            sameCounts("behind", x, 0, 0, 0, 0, 0);
            C.same("nothing taken", x.taken(-1), 0);
            C.same("nothing to undo", x.undo(), -1);
            C.same("nothing written", x.write(3, 5), -1);
            C.same("nothing to restore", x.restore(), -1);
            C.same("no row", x.forget(), 0);
        });
        C.edge("Promise 3: CROSSINGS, BOOKS, LEDGER, IMAGES gone, of a full object", () -> {
            ShadowTolls x = Checks.made(ONE, "pay 1;", "pay 2;", "pay 3;", "pay 4;");
            for (int round = 0; round < 2; round++) {
                for (int i = 0; i < 60; i++) {
                    C.same("crossing", x.cross(0, 0, i % 30, 720), 1);
                }
                for (int i = 0; i < 30; i++) {
                    x.write(i, i);
                }
                for (int i = 0; i < 10; i++) {
                    x.ledger(720, i);
                }
                for (int i = 0; i < 3; i++) {
                    x.image();
                }
                sameCounts("full, round " + round, x, 60, 10, 30, 3, 0);
                C.same("no more crossings", x.cross(0, 0, 0, 720), -1);
                C.same("no more rows", x.ledger(0, 0), -1);
                C.same("no more images", x.image(), -1);
                C.same("no more tolls", Checks.toll(x, "pay 5;"), -1);
                C.same("a bridge", Checks.bridge(x, ONE), 1);
                sameCounts("behind a bridge, round " + round, x, 0, 0, 0, 0, 0);
                C.same("tolls stay", x.told(9), 4);
            }
        });
        C.edge("Promise 3: also by a BRIDGE without a text", () -> {
            ShadowTolls x = busy();
            C.same("no traveller", x.bridge(0), 0);
            sameCounts("behind", x, 0, 0, 0, 0, 0);
        });
        C.edge("Promise 3: TOLLS stay, bridges have TOLL 0", () -> {
            ShadowTolls x = busy();
            Checks.bridge(x, ONE + "second 0 0;");
            C.same("tolls", x.told(9), 2);
            C.same("the first pays 1", x.coins(0, 0, 0, 0, false), 1);
            C.same("the second pays 1", x.coins(1, 0, 0, 0, false), 1);
            C.same("the first had 0", x.law(0, 1), 0);
            C.same("the second had 0", x.law(1, 1), 0);
            C.same("toll 1 stays", x.coins(1, 0, 0, 0, false), 2);
        });
        C.edge("Promise 3: how many TRAVELLERS", () -> {
            for (int n = 0; n <= 8; n++) {
                C.same(n + " travellers", Checks.bridge(new ShadowTolls(), "traveller 50 1 0 0 0;".repeat(n)), n);
            }
        });
        C.edge("Promise 3: or the FAULT less 10 (all but the TAPE stays)", () -> {
            String[] texts = {"takes 9;falls 9;keeper 1 2;sun 0 99;feast 1;cloud 9;lamp 9;shade;" + ONE + ONE + "hat 0 9;lies 0 99;second 9 9;rain",
                "takes 9;" + ONE + "hat 1 1;", "traveller 50 1 0 0 0;".repeat(9)};
            for (int i = 0; i < 3; i++) {
                ShadowTolls x = busy();
                C.same("a fault", Checks.bridge(x, texts[i]), i - 9);
                sameCounts("behind " + i, x, 1, 1, 1, 2, 0);
                int[] due = {1, 4, 360, 1080, 30, 0, 0, 0, 1, 2};
                for (int what = 0; what < due.length; what++) {
                    C.same("told " + what, x.told(what), due[what]);
                }
                C.same("noon", x.day(0, 0), 2700);
                C.same("noon of day 3", x.day(3, 0), 60);
                C.same("feast", x.day(1, 1), 0);
                C.same("height", x.traveller(0, 0), 100);
                C.same("hat", x.traveller(0, 5), 0);
                C.same("lying", x.traveller(0, 6), 0);
                C.same("the second", x.altitude(1, 0, 720), 2700);
                C.same("no way", x.best(1, 0, 0, 1), 2);
                C.same("taken", x.taken(3), 2);
                C.same("written", x.stolen(3), 1);
                C.same("the first's toll", x.law(0, 0), 1);
                C.same("the second's toll", x.law(1, 0), 1);
                C.same("restored", x.restore(), 1);
                C.same("the first's toll", x.law(0, 0), 1);
            }
        });
        refusedLengths("Promise 3: IllegalArgumentException: n is not 0 to the TAPE's bytes (it stays)", false);
    }

    private static int textOf(ShadowTolls x, boolean toll, int n) {
        return toll ? x.toll(n) : x.bridge(n);
    }

    private static void refusedLengths(String sentence, boolean toll) {
        C.edge(sentence, () -> {
            String text = toll ? "pay 5;rain" : "falls 5;takes 5;rain";
            ShadowTolls x = busy();
            for (int n : new int[] {-1, 1, 500, 501, Integer.MIN_VALUE, Integer.MAX_VALUE}) {
                C.refused("n " + n + ", an empty tape", ARGUMENT, () -> textOf(x, toll, n));
            }
            Checks.feed(x, text);
            for (int n : new int[] {-1, 21, 500, 501, Integer.MIN_VALUE, Integer.MAX_VALUE}) {
                C.refused("n " + n + ", twenty bytes", ARGUMENT, () -> textOf(x, toll, n));
                C.same("the tape stays", x.count(4), 20);
            }
            sameCounts("all stays", x, 1, 1, 1, 2, 20);
            C.same("tolls stay", x.told(9), 2);
            C.same("the same bytes", textOf(x, toll, toll ? 6 : 16), toll ? 2 : 0);
            C.same("of all bytes", textOf(fed(toll ? "pay 5;" : "takes 5;"), toll, 20), 0);
            ShadowTolls full = fed(" ".repeat(500));
            C.refused("n 501, a full tape", ARGUMENT, () -> textOf(full, toll, 501));
            C.same("500 of 500", textOf(full, toll, 500), 0);
        });
    }

    private static ShadowTolls fed(String text) {
        ShadowTolls x = new ShadowTolls();
        Checks.feed(x, text);
        return x;
    }

    private static void toll() {
        refusedLengths("Promise 4: Likewise (n is not 0 to the TAPE's bytes)", true);
        C.edge("Promise 4: Likewise (the first n bytes of the TAPE, empty then)", () -> {
            ShadowTolls x = Checks.made(ONE);
            Checks.feed(x, "pay 5;pay 6;rain");
            C.same("the first 12", x.toll(12), 0);
            C.same("the others are gone", x.count(4), 0);
            C.same("both", x.coins(0, 0, 0, 0, false), 11);
            Checks.feed(x, "pay 5;");
            C.same("none of them", x.toll(0), 1);
            C.same("gone too", x.count(4), 0);
        });
        C.edge("Promise 4: or the FAULT less 10 (all but the TAPE stays)", () -> {
            String[] texts = {"pay 7;pay", "pay 7;pay 10000;", "pay 7;".repeat(11)};
            for (int i = 0; i < 3; i++) {
                ShadowTolls x = busy();
                C.same("a fault", Checks.toll(x, texts[i]), i - 9);
                sameCounts("behind " + i, x, 1, 1, 1, 2, 0);
                C.same("tolls", x.told(9), 2);
                C.same("by toll 1", x.coins(0, 0, 0, 0, false), 2);
                x.law(0, 0);
                C.same("by toll 0", x.coins(0, 0, 0, 0, false), 1);
                C.same("the next has the next number", Checks.toll(x, "pay 9;"), 2);
                x.law(0, 2);
                C.same("by it alone", x.coins(0, 0, 0, 0, false), 9);
            }
        });
        C.edge("Promise 4: its number: all but TAPE and TOLLS stays", () -> {
            ShadowTolls x = busy();
            C.same("a toll", Checks.toll(x, "pay 9;"), 2);
            sameCounts("behind", x, 1, 1, 1, 2, 0);
            C.same("the first's", x.law(0, 0), 1);
            C.same("the second's", x.law(1, 0), 1);
        });
        C.edge("Promise 4: -1: there are 4", () -> {
            String[] texts = {"pay 7;", "pay", "pay 10000;", "pay 7;".repeat(11), ""};
            for (String text : texts) {
                ShadowTolls x = busy();
                Checks.toll(x, "pay 3;");
                Checks.toll(x, "pay 4;");
                C.same("a fifth of {" + text + "}", Checks.toll(x, text), -1);
                sameCounts("behind {" + text + "}", x, 1, 1, 1, 2, 0);
                C.same("four", x.told(9), 4);
                for (int i = 0; i < 4; i++) {
                    x.law(0, i);
                    C.same("as it was " + i, x.coins(0, 0, 0, 0, false), i + 1);
                }
            }
        });
    }

    private static void fault() {
        C.edge("Promise 5: The place of the FAULT of the latest text", () -> {
            ShadowTolls x = new ShadowTolls();
            Checks.bridge(x, "shade;rain;");
            C.same("a bridge's", x.fault(), 6);
            C.same("asked once more", x.fault(), 6);
            Checks.toll(x, "pay");
            C.same("a toll's", x.fault(), 3);
            Checks.bridge(x, "7");
            C.same("at 0", x.fault(), 0);
            x.feed(0, 0, 0, 0, 0);
            C.same("what is only fed is no text yet", x.fault(), 0);
        });
        C.edge("Promise 5: NONE without", () -> {
            ShadowTolls x = new ShadowTolls();
            C.same("no text at all", x.fault(), -1);
            Checks.bridge(x, "rain;");
            Checks.bridge(x, "shade;");
            C.same("a good bridge", x.fault(), -1);
            Checks.bridge(x, "rain;");
            Checks.toll(x, "pay 1;");
            C.same("a good toll", x.fault(), -1);
            Checks.toll(x, "pay");
            x.bridge(0);
            C.same("a bridge without a text", x.fault(), -1);
        });
        C.edge("Promise 5: a call refused is no text", () -> {
            ShadowTolls x = new ShadowTolls();
            Checks.bridge(x, "shade;rain;");
            C.refused("bridge(1)", ARGUMENT, () -> x.bridge(1));
            C.refused("toll(-1)", ARGUMENT, () -> x.toll(-1));
            C.same("the place stays", x.fault(), 6);
        });
        C.edge("Promise 5: a fifth TOLL is the latest text, and tells no FAULT", () -> {
            ShadowTolls x = new ShadowTolls();
            for (int i = 0; i < 4; i++) {
                x.toll(0);
            }
            Checks.toll(x, "pay");
            C.same("a faulty fifth", x.fault(), -1);
            Checks.bridge(x, "rain;");
            C.same("a bridge behind it", x.fault(), 0);
            x.toll(0);
            C.same("a fifth behind that", x.fault(), -1);
        });
    }
}
