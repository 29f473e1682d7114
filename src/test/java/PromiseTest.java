import java.util.NoSuchElementException;

/** For each promise of the document: ordinary calls, the edges that it names, wrong calls. Answers are worked by hand. */
public final class PromiseTest {
    private static final Checks C = new Checks("PromiseTest");
    private static final Class<IllegalArgumentException> ARGUMENT = IllegalArgumentException.class;
    private static final Class<NoSuchElementException> ELEMENT = NoSuchElementException.class;
    private static final Class<IndexOutOfBoundsException> INDEX = IndexOutOfBoundsException.class;
    private static final Class<IllegalStateException> STATE = IllegalStateException.class;

    private static final String DAY = "falls 1;keeper 600 840;takes 60;";
    private static final String TWO = DAY + "traveller 100 10 600 840 0;traveller 200 20 660 720 1;";
    private static final String ONE_SLOT = "keeper 600 630;";

    public static void main(String[] args) {
        newObject();
        feed();
        bridge();
        bridgeClauses();
        bridgeFaults();
        toll();
        tollFaults();
        tollValues();
        told();
        traveller();
        day();
        altitude();
        shadow();
        law();
        coins();
        best();
        week();
        plan();
        planShade();
        slot();
        slots();
        most();
        cross();
        undoAndTaken();
        books();
        lines();
        war();
        ledgerAndFits();
        sky();
        season();
        span();
        images();
        count();
        C.end();
    }

    private static void newObject() {
        ShadowTolls x = new ShadowTolls();
        int[] due = {0, 4, 360, 1080, 30, 0, 0, 0, 0, 0};
        for (int what = 0; what < due.length; what++) {
            C.same("new told " + what, x.told(what), due[what]);
        }
        C.same("new noon", x.day(0, 0), 2700);
        C.same("new feast", x.day(29, 1), 0);
        C.same("new slots", x.slots(), 24);
        C.same("new fault", x.fault(), -1);
        C.same("NONE", ShadowTolls.NONE, -1);
        for (int what = 0; what < 5; what++) {
            C.same("new count " + what, x.count(what), 0);
        }
    }

    private static void feed() {
        ShadowTolls x = new ShadowTolls();
        int pay = 'p' << 24 | 'a' << 16 | 'y' << 8 | ' ';
        C.same("feed", x.feed(pay, '7' << 24 | ';' << 16 | '7' << 8 | ';', 0, 0, 0), 20);
        C.same("the highest byte first", x.toll(6), 0);
        for (int i = 1; i <= 25; i++) {
            C.same("feed " + i, x.feed(-1, -1, -1, -1, -1), 20 * i);
        }
        C.same("feed over", x.feed(0, 0, 0, 0, 0), -1);
        C.same("nothing came", x.count(4), 500);
        C.same("bytes are 0 to 255", x.toll(500), -9);
        C.same("fault", x.fault(), 0);
        C.same("empty then", x.count(4), 0);
        C.same("bytes from behind come later", x.feed(1, 2, 3, 4, 5), 20);
    }

    private static void bridge() {
        ShadowTolls x = Checks.made(TWO + "second 0 0;", "pay 1;", "pay 2;");
        x.law(0, 1);
        x.law(1, 1);
        x.cross(0, 0, 3, 720);
        x.write(3, 1);
        x.ledger(1, 1);
        x.image();
        Checks.feed(x, "shade; takes");
        C.refused("bridge(21)", ARGUMENT, () -> x.bridge(21));
        C.refused("bridge(-1)", ARGUMENT, () -> x.bridge(-1));
        C.same("the tape stays", x.count(4), 20);
        C.same("no place yet", x.fault(), -1);
        C.same("a faulty bridge", x.bridge(12), -9);
        C.same("at the length", x.fault(), 12);
        C.same("the tape is empty", x.count(4), 0);
        int[] kept = {1, 1, 1, 1};
        for (int what = 0; what < 4; what++) {
            C.same("all else stays " + what, x.count(what), kept[what]);
        }
        C.same("as it was", x.told(7), 0);
        C.same("its toll stays", x.law(0, 1), 1);
        C.same("a bridge", Checks.bridge(x, TWO + "second 0 0;"), 2);
        C.same("no fault any more", x.fault(), -1);
        for (int what = 0; what < 4; what++) {
            C.same("gone " + what, x.count(what), 0);
        }
        C.same("tolls stay", x.told(9), 2);
        C.same("toll 0", x.law(0, 1), 0);
        C.same("toll 0 at the second", x.law(1, 1), 0);
        Checks.feed(x, "takesx");
        C.same("a word ends with the text", x.bridge(5), -9);
        C.same("then a number is missed", x.fault(), 5);
        Checks.feed(x, "takes 99;");
        C.same("a number ends with the text", x.bridge(7), -9);
        C.same("then a ; is missed", x.fault(), 7);
        Checks.feed(x, "shade;");
        C.same("a sign behind the text is none of it", x.bridge(5), -9);
        Checks.feed(x, "shade;takes 0;");
        C.same("the first n bytes alone", x.bridge(6), 0);
        C.same("shade", x.told(7), 1);
        C.same("an empty text", x.bridge(0), 0);
        C.same("no shade", x.told(7), 0);
    }

    private static void bridgeClauses() {
        ShadowTolls x = new ShadowTolls();
        C.same("the greatest", Checks.bridge(x, "sun 29 5400;falls 9;keeper 1438 1439;takes 60;cloud 16;lamp 5400;second 60 99;feast 29;"
            + "traveller 400 999 1439 1439 9;hat 0 99;lies 0 400;"), 1);
        C.same("lies 400", x.traveller(0, 6), 400);
        C.same("the least", Checks.bridge(x, "sun 0 60;falls 1;keeper 0 1;takes 1;cloud 0;lamp 1;second 0 0;feast 0;"
            + "traveller 50 1 0 0 0;hat 0 1;lies 0 10;"), 1);
        C.same("one slot", x.slots(), 1);
        C.same("the last counts", Checks.bridge(x, "sun 3 100;sun 3 200;falls 2;falls 3;keeper 1 2;keeper 3 9;takes 5;takes 2;cloud 4;cloud 5;"
            + "lamp 6;lamp 7;traveller 50 1 0 0 0;hat 0 5;hat 0 6;lies 0 20;lies 0 30;second 1 2;second 3 4;"), 1);
        int[] due = {1, 3, 3, 9, 2, 5, 7, 0, 1, 0};
        for (int what = 0; what < due.length; what++) {
            C.same("the last told " + what, x.told(what), due[what]);
        }
        C.same("the last sun", x.day(3, 0), 200);
        C.same("the last hat", x.traveller(0, 5), 6);
        C.same("the last lies", x.traveller(0, 6), 30);
        C.same("the last second", x.altitude(1, 0, 717), 2700);
        C.same("blanks", Checks.bridge(x, "  sun  0005   0060  ;shade ; takes7;  "), 0);
        C.same("blanks: sun", x.day(5, 0), 60);
        C.same("no blank is needed", x.told(4), 7);
        C.same("40 clauses", Checks.bridge(x, "shade;".repeat(40) + " "), 0);
        C.same("8 travellers", Checks.bridge(x, "traveller 50 1 0 0 0;".repeat(8)), 8);
        C.same("many digits", Checks.bridge(x, "takes " + "0".repeat(100) + "9;"), 0);
        C.same("many digits: takes", x.told(4), 9);
    }

    private static void faultOfBridge(String text, int kind, int place) {
        ShadowTolls x = new ShadowTolls();
        C.same("bridge of {" + text + "}", Checks.bridge(x, text), kind - 10);
        C.same("place in {" + text + "}", x.fault(), place);
    }

    private static void bridgeFaults() {
        faultOfBridge("suns 0 60;", 1, 0);
        faultOfBridge("  Sun 0 60;", 1, 2);
        faultOfBridge(";", 1, 0);
        faultOfBridge("shade;;", 1, 6);
        faultOfBridge("shade shade;", 1, 6);
        faultOfBridge("shade", 1, 5);
        faultOfBridge("shade  ", 1, 7);
        faultOfBridge("takes ;", 1, 6);
        faultOfBridge("takes -1;", 1, 6);
        faultOfBridge("takes 1 1;", 1, 8);
        faultOfBridge("takes 1x;", 1, 7);
        faultOfBridge("sun 0;", 1, 5);
        faultOfBridge("sun x 60;", 1, 4);
        faultOfBridge("shade\t;", 1, 5);
        faultOfBridge("sun 30 60;", 2, 4);
        faultOfBridge("sun 0 59;", 2, 6);
        faultOfBridge("sun 0 5401;", 2, 6);
        faultOfBridge("falls 0;", 2, 6);
        faultOfBridge("falls 10;", 2, 6);
        faultOfBridge("keeper 1439 1439;", 2, 7);
        faultOfBridge("keeper 5 5;", 2, 9);
        faultOfBridge("keeper 5 1440;", 2, 9);
        faultOfBridge("takes 0;", 2, 6);
        faultOfBridge("takes 61;", 2, 6);
        faultOfBridge("takes 4294967297;", 2, 6);
        faultOfBridge("traveller 49 1 0 0 0;", 2, 10);
        faultOfBridge("traveller 401 1 0 0 0;", 2, 10);
        faultOfBridge("traveller 50 0 0 0 0;", 2, 13);
        faultOfBridge("traveller 50 1000 0 0 0;", 2, 13);
        faultOfBridge("traveller 50 1 1440 0 0;", 2, 15);
        faultOfBridge("traveller 50 1 5 4 0;", 2, 17);
        faultOfBridge("traveller 50 1 0 1440 0;", 2, 17);
        faultOfBridge("traveller 50 1 0 0 10;", 2, 19);
        faultOfBridge("hat 0 1;traveller 50 1 0 0 0;", 2, 4);
        faultOfBridge("traveller 50 1 0 0 0;hat 0 0;", 2, 27);
        faultOfBridge("traveller 50 1 0 0 0;hat 0 100;", 2, 27);
        faultOfBridge("traveller 50 1 0 0 0;lies 1 10;", 2, 26);
        faultOfBridge("traveller 50 1 0 0 0;lies 0 9;", 2, 28);
        faultOfBridge("traveller 50 1 0 0 0;lies 0 401;", 2, 28);
        faultOfBridge("feast 30;", 2, 6);
        faultOfBridge("cloud 17;", 2, 6);
        faultOfBridge("second 61 0;", 2, 7);
        faultOfBridge("second 0 100;", 2, 9);
        faultOfBridge("lamp 0;", 2, 5);
        faultOfBridge("lamp 5401;", 2, 5);
        faultOfBridge("takes 0;suns", 2, 6);
        faultOfBridge("traveller 50 1 0 0 0;".repeat(9), 3, 168);
        faultOfBridge("shade;".repeat(40) + " shade;", 3, 241);
        faultOfBridge("shade;".repeat(40) + "shades;", 1, 240);
    }

    private static void toll() {
        ShadowTolls x = new ShadowTolls();
        C.same("an empty toll", x.toll(0), 0);
        C.same("toll", Checks.toll(x, " pay ( shadow - 1 ) * 2 / height if not [ day < 3 or hour = 4 ] and weight > 05 ; "), 1);
        C.same("ten rows", Checks.toll(x, "pay 1;".repeat(10)), 2);
        C.same("a faulty toll", Checks.toll(x, "pay"), -9);
        C.same("its place", x.fault(), 3);
        C.same("tolls", x.told(9), 3);
        Checks.feed(x, "pay 9999;pay 0;");
        C.refused("toll(21)", ARGUMENT, () -> x.toll(21));
        C.refused("toll(-1)", ARGUMENT, () -> x.toll(-1));
        C.same("the place stays", x.fault(), 3);
        C.same("the tape stays", x.toll(9), 3);
        C.same("no place", x.fault(), -1);
        C.same("the rest of the tape is gone", x.count(4), 0);
        C.same("a fifth", Checks.toll(x, "pay 1;"), -1);
        C.same("tolls are four", x.told(9), 4);
        C.same("no place of a good fifth", x.fault(), -1);
        C.same("a faulty fifth, what can't stand there", Checks.toll(x, "pay 1"), -1);
        C.same("it is not read", x.fault(), -1);
        C.same("a faulty fifth, a number", Checks.toll(x, "pay 10000;"), -1);
        C.same("nor is this", x.fault(), -1);
        C.same("a faulty fifth, a row too many", Checks.toll(x, "pay 1;".repeat(11)), -1);
        C.same("nor this", x.fault(), -1);
        C.same("a fifth takes the tape", x.count(4), 0);
        C.refused("a fifth of more than the tape", ARGUMENT, () -> x.toll(1));
        C.same("a faulty bridge ahead of a fifth", Checks.bridge(x, "shade; shades;"), -9);
        C.same("a good fifth behind it", Checks.toll(x, "pay 1;"), -1);
        C.same("the fifth is the latest text, and has no place", x.fault(), -1);
        Checks.bridge(x, "shade; shades;");
        C.same("a faulty fifth behind it", Checks.toll(x, "pay"), -1);
        C.same("no fault of the fifth is told", x.fault(), -1);
        Checks.bridge(x, "shade; shades;");
        C.same("a fifth without a byte", x.toll(0), -1);
        C.same("it is the latest text too", x.fault(), -1);
        Checks.bridge(x, "shade; shades;");
        C.refused("a fifth of less than nothing", ARGUMENT, () -> x.toll(-1));
        C.refused("a fifth that was never fed", ARGUMENT, () -> x.toll(1));
        C.same("a call refused is no text: the bridge's place stays", x.fault(), 7);
        Checks.feed(x, "pay 1;");
        C.same("a fifth of a part of the tape", x.toll(3), -1);
        C.same("the bridge's place is gone", x.fault(), -1);
        C.same("the whole tape is empty", x.count(4), 0);
        Checks.bridge(x, "shade;");
        C.same("a good bridge has no fault", x.fault(), -1);
        C.same("four still, of a new bridge", x.toll(0), -1);
        C.same("seven, six at a time", Checks.toll(new ShadowTolls(), "pay ((((((1))))))+(1) if not [[[[[1<2]]]]] or not not not not not not 1=1;"), 0);
    }

    private static void faultOfToll(String text, int kind, int place) {
        ShadowTolls x = new ShadowTolls();
        C.same("toll of {" + text + "}", Checks.toll(x, text), kind - 10);
        C.same("place in {" + text + "}", x.fault(), place);
        C.same("tolls behind {" + text + "}", x.told(9), 0);
    }

    private static void tollFaults() {
        faultOfToll("pays 1;", 1, 0);
        faultOfToll("pay;", 1, 3);
        faultOfToll("pay 1", 1, 5);
        faultOfToll("pay 1 ;  pay", 1, 12);
        faultOfToll("pay +1;", 1, 4);
        faultOfToll("pay 1+;", 1, 6);
        faultOfToll("pay 1 2;", 1, 6);
        faultOfToll("pay hat;", 1, 4);
        faultOfToll("pay shadows;", 1, 4);
        faultOfToll("pay (1;", 1, 6);
        faultOfToll("pay 1);", 1, 5);
        faultOfToll("pay [1];", 1, 4);
        faultOfToll("pay 1 if;", 1, 8);
        faultOfToll("pay 1 iff 1<2;", 1, 6);
        faultOfToll("pay 1 if 1;", 1, 10);
        faultOfToll("pay 1 if (1<2);", 1, 11);
        faultOfToll("pay 1 if [1<2;", 1, 13);
        faultOfToll("pay 1 if 1<2<3;", 1, 12);
        faultOfToll("pay 1 if 1<2 or;", 1, 15);
        faultOfToll("pay 1 if not;", 1, 12);
        faultOfToll("pay 1 if and 1<2;", 1, 9);
        faultOfToll("pay 1 if notnot 1<2;", 1, 9);
        faultOfToll("pay 1 if 1!2;", 1, 10);
        faultOfToll("pay 10000;", 2, 4);
        faultOfToll("pay 1 if 4294967296=0;", 2, 9);
        faultOfToll("pay (((((((1)))))));", 3, 10);
        faultOfToll("pay 1 if [[[[[[[1<2]]]]]]];", 3, 15);
        faultOfToll("pay 1 if not not not not not not not 1<2;", 3, 33);
        faultOfToll("pay 1 if [not [not [not (1)<2]]];", 3, 24);
        faultOfToll("pay 1 if [not [not [(1)<(2)]]];pay 1;pay (((((((", 3, 47);
        faultOfToll("pay 1;".repeat(10) + "pay 1;", 3, 60);
        faultOfToll("pay 1;".repeat(10) + "pays 1;", 1, 60);
    }

    /** COINS of one of height 100, weight 10 on day 3, at noon (shadow 100, hour 12). */
    private static void value(String law, int due) {
        ShadowTolls x = Checks.made("feast 3;traveller 100 10 0 1439 0;", law);
        C.same("coins by {" + law + "}", x.coins(0, 0, 3, 720, false), due);
    }

    private static void tollValues() {
        value("", 0);
        value("pay shadow;pay height;pay weight;", 210);
        value("pay hour;pay day*100;pay feast*1000;", 1312);
        value("pay 2+3*4;", 14);
        value("pay (2+3)*4;", 20);
        value("pay 20-3-4;", 13);
        value("pay 20/3/2*5;", 15);
        value("pay 0-7/2+10;", 7);
        value("pay (0-7)/2+10;", 7);
        value("pay 5/0+3;", 3);
        value("pay 5-9;", 0);
        value("pay 5-9;pay 10;", 6);
        value("pay 9999;pay 1;", 9999);
        value("pay 9999;pay 9999;pay 0-9999;pay 0-9998;", 1);
        // 32 bits wrap in a value, but not in the sum of rows
        value("pay 9999*9999*43/1000;", 4172);
        value("pay 9999*9999*22;", 0);
        value("pay 7 if 9999*9999*22<0;", 7);
        value("pay 9999*9999*21;pay 9999*9999*21;", 9999);
        value("pay 0-9999*9999*21;pay 0-9999*9999*21;pay 1;", 0);
        value("pay 7 if 2048*1024*1024/(0-1)<0;", 7);
        value("pay 1 if 1<2;pay 2 if 2<1;pay 4 if 2>1;pay 8 if 1>2;pay 16 if 3=3;pay 32 if 3=4;", 21);
        value("pay 1 if 1<1;pay 2 if 1>1;", 0);
        value("pay 1 if 0-1<0;", 1);
        value("pay 5 if 1=1 or 1=1 and 1=2;", 5);
        value("pay 5 if [1=1 or 1=1] and 1=2;", 0);
        value("pay 5 if not 1=2 and 1=1;", 5);
        value("pay 5 if not 1=1 or 1=1;", 5);
        value("pay 5 if not [1=1 or 1=1];", 0);
        value("pay 5 if not not 1=1;", 5);
        value("pay 5 if 1=2 and 1=1 or 1=1 and 2=2;", 5);
        value("pay 5 if 1=2 or 1=2 or day=3;", 5);
        value("pay(shadow+1)if(height-1)*2>weight;", 101);
        value("pay 1+(2*(3+(4*(5+(6*(7))))))*1;", 383);
    }

    private static void told() {
        ShadowTolls x = Checks.made(TWO + "falls 7;keeper 5 9;takes 3;cloud 2;lamp 8;shade;second 1 1;", "pay 1;");
        int[] due = {2, 7, 5, 9, 3, 2, 8, 1, 1, 1};
        for (int what = 0; what < due.length; what++) {
            C.same("told " + what, x.told(what), due[what]);
        }
        C.refused("told(-1)", ARGUMENT, () -> x.told(-1));
        C.refused("told(10)", ARGUMENT, () -> x.told(10));
    }

    private static void traveller() {
        ShadowTolls x = Checks.made("traveller 51 2 3 4 5;traveller 60 7 8 9 0;hat 0 6;lies 0 17;");
        int[] due = {51, 2, 3, 4, 5, 6, 17};
        int[] other = {60, 7, 8, 9, 0, 0, 0};
        for (int what = 0; what < due.length; what++) {
            C.same("traveller 0 " + what, x.traveller(0, what), due[what]);
            C.same("traveller 1 " + what, x.traveller(1, what), other[what]);
        }
        C.refused("traveller(2, 0)", ELEMENT, () -> x.traveller(2, 0));
        C.refused("traveller(-1, 9)", ELEMENT, () -> x.traveller(-1, 9));
        C.refused("traveller(0, 7)", ARGUMENT, () -> x.traveller(0, 7));
        C.refused("traveller(0, -1)", ARGUMENT, () -> x.traveller(0, -1));
    }

    private static void day() {
        ShadowTolls x = Checks.made("sun 20 300;sun 5 200;feast 7;feast 9;");
        C.same("before any", x.day(4, 0), 2700);
        C.same("from it on", x.day(5, 0), 200);
        C.same("till the next", x.day(19, 0), 200);
        C.same("the next", x.day(20, 0), 300);
        C.same("to the end", x.day(29, 0), 300);
        C.same("a feast", x.day(7, 1), 1);
        C.same("another", x.day(9, 1), 1);
        C.same("none", x.day(8, 1), 0);
        C.refused("day(-1, 0)", ARGUMENT, () -> x.day(-1, 0));
        C.refused("day(30, 0)", ARGUMENT, () -> x.day(30, 0));
        C.refused("day(0, 2)", ARGUMENT, () -> x.day(0, 2));
        C.refused("day(0, -1)", ARGUMENT, () -> x.day(0, -1));
    }

    private static void altitude() {
        ShadowTolls x = Checks.made("sun 0 100;falls 9;second 60 0;");
        C.same("noon", x.altitude(0, 0, 720), 100);
        C.same("before", x.altitude(0, 0, 710), 10);
        C.same("behind", x.altitude(0, 0, 731), 1);
        C.same("night", x.altitude(0, 0, 732), 0);
        C.same("noon at the second", x.altitude(1, 0, 660), 100);
        C.same("night at the second", x.altitude(1, 0, 720), 0);
        Checks.bridge(x, "sun 0 100;falls 1;lamp 7;");
        C.same("1 is light", x.altitude(0, 0, 819), 1);
        C.same("0 is night: the lamp", x.altitude(0, 0, 820), 7);
        C.refused("altitude(1, 30, 0)", INDEX, () -> x.altitude(1, 30, 0));
        C.refused("altitude(-1, 0, 0)", INDEX, () -> x.altitude(-1, 0, 0));
        C.refused("altitude(2, 0, 0)", INDEX, () -> x.altitude(2, 0, 0));
        C.refused("altitude(0, 30, 0)", ARGUMENT, () -> x.altitude(0, 30, 0));
        C.refused("altitude(0, 0, 1440)", ARGUMENT, () -> x.altitude(0, 0, 1440));
        C.refused("altitude(0, 0, -1)", ARGUMENT, () -> x.altitude(0, 0, -1));
        C.same("the last minute", x.altitude(0, 0, 1439), 7);
    }

    private static void shadow() {
        ShadowTolls x = Checks.made("sun 1 5400;sun 2 60;falls 9;");
        C.same("shadow", x.shadow(0, 0, 720, 999), 999);
        C.same("it cuts", x.shadow(0, 0, 620, 100), 200);
        C.same("it cuts", x.shadow(0, 0, 621, 100), 198);
        C.same("right above", x.shadow(0, 1, 720, 999), 0);
        C.same("the greatest", x.shadow(0, 2, 726, 1), 899);
        C.same("9,999 at most", x.shadow(0, 2, 726, 12), 9999);
        C.same("no light", x.shadow(0, 2, 727, 999), 0);
        C.refused("shadow of 0", ARGUMENT, () -> x.shadow(0, 0, 0, 0));
        C.refused("shadow of 1000", ARGUMENT, () -> x.shadow(0, 0, 0, 1000));
        C.refused("shadow on day -1", ARGUMENT, () -> x.shadow(0, -1, 0, 1));
        C.refused("shadow in minute 1440", ARGUMENT, () -> x.shadow(0, 0, 1440, 1));
        C.refused("shadow at 1", INDEX, () -> x.shadow(1, -1, 0, 0));
        Checks.bridge(x, "sun 0 60;falls 9;lamp 2700;");
        C.same("by the lamp", x.shadow(0, 0, 0, 55), 55);
        Checks.bridge(x, "sun 0 61;falls 6;");
        C.same("the least light", x.shadow(0, 0, 730, 1), 5399);
    }

    private static void law() {
        ShadowTolls x = Checks.made(TWO + "second 0 0;", "pay 1;", "pay 2;", "pay 3;");
        C.same("it was 0", x.law(0, 2), 0);
        C.same("it was 2", x.law(0, 1), 2);
        C.same("the second's own", x.law(1, 2), 0);
        C.same("coins at the first", x.coins(0, 0, 0, 0, false), 2);
        C.same("coins at the second", x.coins(1, 0, 0, 0, false), 3);
        C.refused("law(0, 3)", ARGUMENT, () -> x.law(0, 3));
        C.refused("law(0, -1)", ARGUMENT, () -> x.law(0, -1));
        C.refused("law(2, 9)", INDEX, () -> x.law(2, 9));
        C.refused("law without tolls", ARGUMENT, () -> new ShadowTolls().law(0, 0));
        C.same("it stays", x.law(0, 0), 1);
    }

    private static void coins() {
        ShadowTolls x = Checks.made("traveller 100 10 0 1439 0;hat 0 50;traveller 300 10 0 1439 0;lies 1 40;hat 1 1;second 60 9;feast 2;",
            "pay shadow;pay height*10;pay feast;", "pay weight;", "pay shadow;");
        C.same("with the hat", x.coins(0, 0, 0, 720, false), 1650);
        C.same("dark", x.coins(0, 0, 0, 720, true), 1500);
        C.same("feast", x.coins(0, 0, 2, 720, true), 1501);
        C.same("lying", x.coins(0, 1, 0, 720, false), 440);
        C.same("the second has an earlier noon", x.coins(1, 0, 0, 660, false), 1650);
        x.law(0, 1);
        C.same("twice the weight: standing is less", x.coins(0, 1, 0, 720, false), 10);
        x.law(0, 2);
        C.same("dark pays no shadow, lying or not", x.coins(0, 1, 0, 720, true), 0);
        C.same("no waiting, no way, no keeper", x.coins(0, 1, 0, 0, false), 0);
        C.refused("coins(2, 9, ..)", INDEX, () -> x.coins(2, 9, 99, 0, false));
        C.refused("coins(0, 2, ..)", ELEMENT, () -> x.coins(0, 2, 99, 0, false));
        C.refused("coins, day", ARGUMENT, () -> x.coins(0, 0, 30, 0, false));
        C.refused("coins, minute", ARGUMENT, () -> x.coins(0, 0, 0, 1440, false));
        C.same("no toll", Checks.made(TWO).coins(0, 0, 0, 720, false), 0);
        ShadowTolls lamp = Checks.made("falls 9;lamp 1800;traveller 100 10 0 1439 0;", "pay shadow;");
        C.same("by the lamp", lamp.coins(0, 0, 0, 0, false), 200);
        C.same("clouds hide the lamp too", lamp.coins(0, 0, 0, 0, true), 0);
    }

    private static void best() {
        ShadowTolls x = Checks.made(TWO + "second 0 7;traveller 100 1 0 599 0;traveller 100 1 841 900 0;traveller 100 1 840 900 2;traveller 100 1 0 600 1;",
            "pay shadow;");
        // altitude 2687 to 2700 at noon: 100*(5400-a)/a is 100 from a = 2687 on (13 minutes before)
        C.same("the first of the least", x.best(0, 0, 0, 0), 707);
        C.same("what it costs", x.best(0, 0, 0, 1), 100);
        C.same("waiting counts", x.best(0, 1, 0, 0), 660);
        C.same("what it costs", x.best(0, 1, 0, 1), 209);
        C.same("the way counts", x.best(1, 0, 0, 1), 107);
        C.same("too early", x.best(0, 2, 0, 0), -1);
        C.same("too early", x.best(0, 2, 0, 1), -1);
        C.same("too late", x.best(0, 3, 0, 0), -1);
        C.same("the keeper's last minute", x.best(0, 4, 0, 0), 840);
        C.same("the keeper's first minute", x.best(0, 5, 0, 0), 600);
        C.same("waited from his own", x.best(0, 5, 0, 1), 109 + 600);
        C.refused("best(2, ..)", INDEX, () -> x.best(2, 9, 30, 2));
        C.refused("best(0, 6, ..)", ELEMENT, () -> x.best(0, 6, 30, 2));
        C.refused("best, day", ARGUMENT, () -> x.best(0, 0, 30, 0));
        C.refused("best, what", ARGUMENT, () -> x.best(0, 0, 0, 2));
    }

    private static void week() {
        ShadowTolls x = Checks.made("sun 0 2000;sun 4 2700;sun 6 1000;traveller 100 10 700 720 3;traveller 100 1 0 5 0;second 0 3;", "pay shadow;");
        C.same("the cheapest day, the first of two", x.week(0, 0), 4);
        C.same("at the second", x.week(1, 0), 4);
        C.same("no minute at all", x.week(0, 1), -1);
        C.refused("week(2, 9)", INDEX, () -> x.week(2, 9));
        C.refused("week(0, 2)", ELEMENT, () -> x.week(0, 2));
        // on day 7 the best minute is the later one, but it costs least
        ShadowTolls y = Checks.made("falls 9;traveller 400 10 719 720 1;", "pay 50;pay 0-40 if day=7 and shadow=400;");
        C.same("the earlier minute", y.best(0, 0, 6, 0), 719);
        C.same("the later minute", y.best(0, 0, 7, 0), 720);
        C.same("costs count, not the minute", y.week(0, 0), 7);
    }

    private static int[] plans(ShadowTolls x, int bits, boolean both) {
        int[] all = new int[5];
        for (int what = 0; what < 5; what++) {
            all[what] = x.plan(bits, 0, both, what);
        }
        return all;
    }

    private static void samePlan(String name, ShadowTolls x, int bits, boolean both, int... due) {
        int[] got = plans(x, bits, both);
        for (int what = 0; what < 5; what++) {
            C.same(name + ", what " + what, got[what], due[what]);
        }
    }

    private static void plan() {
        ShadowTolls x = Checks.made(TWO, "pay shadow;");
        samePlan("two", x, 3, false, 0, 309, 309, 0, 120);
        samePlan("nobody", x, 0, false, 0, 0, 0, 0, 0);
        samePlan("one", x, 2, false, 0, 209, 209, 0, 0);
        C.refused("bits of none", ARGUMENT, () -> x.plan(4, 0, false, 0));
        C.refused("bits below 0", ARGUMENT, () -> x.plan(-1, 0, false, 0));
        C.refused("both", ARGUMENT, () -> x.plan(0, 0, true, 0));
        C.refused("day", ARGUMENT, () -> x.plan(0, 30, false, 0));
        C.refused("what 5", ARGUMENT, () -> x.plan(0, 0, false, 5));
        C.refused("what -1", ARGUMENT, () -> x.plan(0, 0, false, -1));
        ShadowTolls one = Checks.made(ONE_SLOT + "second 0 7;traveller 100 20 0 1439 0;traveller 100 10 590 600 3;", "pay weight;");
        samePlan("one slot: the cheaper crosses", one, 3, false, 1, 20, 20, 0, 600);
        samePlan("two bridges: the fewest out, then the least costs", one, 3, true, 0, 20 + 10 + 30 + 7, 20, 10, 600);
        C.same("equal costs: the least traveller at the first bridge", one.slot(3, 0, true, 0), 0);
        ShadowTolls none = Checks.made("keeper 0 59;takes 60;traveller 100 10 0 1439 0;", "pay 5;");
        samePlan("no slot", none, 1, false, 1, 0, 0, 0, 0);
        ShadowTolls late = Checks.made(DAY + "traveller 100 10 601 659 0;traveller 100 10 660 660 0;", "pay 5;");
        samePlan("his minutes alone", late, 3, false, 1, 5, 5, 0, 0);
        ShadowTolls many = Checks.made("traveller 100 10 360 1439 0;".repeat(8), "pay 9999;");
        samePlan("eight", many, 255, false, 0, 8 * 9999, 8 * 9999, 0, 210);
        C.same("slot by slot", many.slot(255, 0, false, 7), 7);
        ShadowTolls dear = Checks.made("keeper 0 1439;second 0 99;" + "traveller 100 10 0 1439 9;".repeat(8), "pay 9999;");
        samePlan("costs never weigh more than one left out", dear, 255, true,
            0, 8 * 9999 + 9 * 30 * 2 * (1 + 2 + 3) + 4 * 99, 4 * 9999, 4 * 9999, 90);
    }

    private static void planShade() {
        String tall = DAY + "traveller 300 10 600 600 0;traveller 100 10 660 660 0;";
        samePlan("without shade", Checks.made(tall, "pay shadow;"), 3, false, 0, 327 + 104, 431, 0, 0);
        ShadowTolls x = Checks.made(tall + "shade;", "pay shadow;");
        samePlan("behind one who is higher", x, 3, false, 0, 327, 327, 0, 0);
        samePlan("behind nobody", x, 2, false, 0, 104, 104, 0, 0);
        samePlan("as high is not higher", Checks.made(tall + "shade;hat 1 99;hat 1 99;traveller 100 1 0 0 0;", "pay height/100;"), 3, false, 0, 4, 4, 0, 0);
        String hats = DAY + "shade;traveller 100 10 600 600 0;traveller 100 10 660 660 0;";
        samePlan("equal", Checks.made(hats, "pay shadow;"), 3, false, 0, 109 + 104, 213, 0, 0);
        samePlan("hats count", Checks.made(hats + "hat 0 1;", "pay shadow;"), 3, false, 0, 110, 110, 0, 0);
        samePlan("hats behind count", Checks.made(hats + "hat 0 1;hat 1 1;", "pay shadow;"), 3, false, 0, 110 + 105, 215, 0, 0);
        samePlan("lying does not count", Checks.made(hats + "hat 0 1;lies 0 10;", "pay shadow;"), 3, false, 0, 10, 10, 0, 0);
        String gap = DAY + "shade;traveller 300 10 600 600 0;traveller 100 10 720 720 0;";
        samePlan("not right behind", Checks.made(gap, "pay shadow;"), 3, false, 0, 427, 427, 0, 0);
        // both want slot 0; the second bridge's slot 0 stands behind the first's last slot, but in nobody's shade
        String two = "falls 1;keeper 600 660;takes 60;shade;second 0 0;traveller 300 10 600 600 0;traveller 100 10 600 600 0;";
        samePlan("another bridge's shade", Checks.made(two, "pay shadow;"), 3, true, 0, 436, 327, 109, 0);
    }

    private static void slot() {
        ShadowTolls x = Checks.made(TWO + "second 0 1;traveller 50 1 0 0 0;traveller 100 10 780 780 0;traveller 100 10 780 780 0;", "pay shadow;");
        C.same("slot", x.slot(3, 0, false, 0), 2);
        C.same("slot", x.slot(3, 0, false, 1), 1);
        C.same("none of them", x.slot(1, 0, false, 1), -1);
        C.same("left out", x.slot(4, 0, false, 2), -1);
        C.same("of equals the least at the first", x.slot(24, 0, true, 3), 3);
        C.same("100 and more at the second", x.slot(24, 0, true, 4), 103);
        C.same("the least is not left out", x.slot(24, 0, false, 3), 3);
        C.same("the other is", x.slot(24, 0, false, 4), -1);
        C.refused("slot, traveller", ELEMENT, () -> x.slot(-1, 30, false, 5));
        C.refused("slot, bits", ARGUMENT, () -> x.slot(32, 0, false, 0));
        C.refused("slot, day", ARGUMENT, () -> x.slot(0, -1, false, 0));
        C.refused("slot, both", ARGUMENT, () -> Checks.made(TWO).slot(3, 0, true, 0));
        ShadowTolls same = Checks.made(DAY + "second 0 0;traveller 100 1 0 1439 0;traveller 100 1 0 1439 0;", "pay 1;");
        C.same("nobody last", same.slot(3, 0, false, 0), 0);
        C.same("nobody last", same.slot(3, 0, false, 1), 1);
        C.same("the second behind the others", same.slot(3, 0, true, 1), 1);
        C.same("another day", same.slot(2, 29, true, 1), 0);
    }

    private static void slots() {
        C.same("30 at most", Checks.made("keeper 0 1439;takes 1;").slots(), 30);
        C.same("the last ends by T", Checks.made("keeper 600 659;takes 20;").slots(), 2);
        C.same("ends at T", Checks.made("keeper 600 660;takes 20;").slots(), 3);
        C.same("none", Checks.made("keeper 600 601;").slots(), 0);
    }

    private static void most() {
        ShadowTolls x = Checks.made(TWO, "pay shadow;", "pay weight;");
        C.same("most", x.most(0), 109 + 209);
        x.law(0, 1);
        C.same("by the other toll", x.most(0), 30);
        C.same("one slot: the heavier", Checks.made(ONE_SLOT + "traveller 50 10 0 1439 9;traveller 50 20 0 1439 0;second 0 9;", "pay weight;").most(0), 20);
        ShadowTolls left = Checks.made(DAY + "shade;traveller 300 10 600 600 0;traveller 100 10 660 660 0;", "pay shadow if height<200;pay 1;");
        C.same("the best plan lets both cross", left.plan(3, 0, false, 2), 2);
        C.same("one left out brings more", left.most(0), 105);
        C.same("nobody", new ShadowTolls().most(29), 0);
        C.refused("most(30)", ARGUMENT, () -> x.most(30));
        C.refused("most(-1)", ARGUMENT, () -> x.most(-1));
    }

    private static void cross() {
        ShadowTolls x = Checks.made(TWO + "second 60 9;shade;cloud 16;", "pay shadow;", "pay 7;");
        C.same("a crossing", x.cross(0, 0, 3, 720), 100);
        x.law(1, 1);
        C.same("at the second, no way", x.cross(1, 0, 3, 720), 7);
        C.same("before the keeper", x.cross(0, 0, 3, 599), -2);
        C.same("the keeper's first minute", x.cross(0, 0, 3, 600), 109);
        C.same("the keeper's last minute", x.cross(0, 0, 3, 840), 109);
        C.same("behind the keeper", x.cross(0, 0, 3, 841), -2);
        C.same("he may not come yet", x.cross(0, 1, 3, 659), -2);
        C.same("he may", x.cross(0, 1, 3, 660), 209);
        C.same("he may not come any more", x.cross(0, 1, 3, 721), -2);
        C.refused("cross(2, ..)", INDEX, () -> x.cross(2, 9, 30, 0));
        C.refused("cross(0, 2, ..)", ELEMENT, () -> x.cross(0, 2, 30, 0));
        C.refused("cross, day", ARGUMENT, () -> x.cross(0, 0, 30, 0));
        C.refused("cross, minute", ARGUMENT, () -> x.cross(0, 0, 0, 1440));
        for (int i = x.count(0); i < 60; i++) {
            C.same("crossing " + i, x.cross(1, 0, i % 30, 700), 7);
        }
        C.same("there are 60", x.cross(0, 0, 3, 720), -1);
        C.same("also when it is shut", x.cross(0, 0, 3, 0), -1);
        C.refused("wrong all the same", ARGUMENT, () -> x.cross(0, 0, 0, -1));
        C.same("60", x.count(0), 60);
    }

    private static void undoAndTaken() {
        ShadowTolls x = Checks.made(TWO, "pay shadow;", "pay 7;");
        C.same("nothing to undo", x.undo(), -1);
        x.cross(0, 0, 3, 720);
        x.law(0, 1);
        x.cross(0, 0, 3, 720);
        x.cross(0, 0, 4, 720);
        C.same("taken as told then", x.taken(3), 107);
        C.same("of another day", x.taken(4), 7);
        C.same("of a day without", x.taken(5), 0);
        C.same("of all", x.taken(-1), 114);
        C.refused("taken(30)", ARGUMENT, () -> x.taken(30));
        C.refused("taken(-2)", ARGUMENT, () -> x.taken(-2));
        C.same("the latest first", x.undo(), 7);
        C.same("the latest first", x.undo(), 7);
        C.same("one is left", x.taken(-1), 100);
        C.same("the first", x.undo(), 100);
        C.same("none", x.undo(), -1);
    }

    private static void books() {
        ShadowTolls x = Checks.made(TWO, "pay shadow;");
        x.cross(0, 0, 3, 720);
        C.same("nothing is written", x.stolen(3), 0);
        C.same("written first", x.write(3, 80), -1);
        C.same("stolen", x.stolen(3), 20);
        C.same("written before", x.write(3, 130), 80);
        C.same("below 0", x.stolen(3), -30);
        C.same("0 is written too", x.write(4, 0), -1);
        C.same("two days", x.count(2), 2);
        C.same("nothing any more", x.write(4, -1), 0);
        C.same("one day", x.count(2), 1);
        C.same("the greatest", x.write(29, 99999), -1);
        C.refused("write 100000", ARGUMENT, () -> x.write(0, 100000));
        C.refused("write -2", ARGUMENT, () -> x.write(0, -2));
        C.refused("write of day 30", ARGUMENT, () -> x.write(30, 0));
        C.refused("write of day -1", ARGUMENT, () -> x.write(-1, 0));
        C.refused("stolen of day 30", ARGUMENT, () -> x.stolen(30));
        C.refused("stolen of day -1", ARGUMENT, () -> x.stolen(-1));
        C.same("too much", x.much(), 29);
        x.write(29, 318);
        C.same("as much as most is not too much", x.much(), -1);
        x.write(29, 319);
        x.write(12, 319);
        C.same("the first of two", x.much(), 12);
    }

    private static void lines() {
        ShadowTolls x = Checks.made(TWO);
        C.same("two lines", x.lines(0, 0, 0), 99);
        C.same("earned", x.lines(0, 0, 1), 9 + 18 + 9 + 18);
        C.same("jam", x.lines(0, 0, 2), 0);
        // who comes from 600 on goes at 660, when the shadow's share is one coin less, if that is worth a jam of 60
        ShadowTolls y = Checks.made(DAY + "traveller 399 1 600 840 0;");
        C.same("no matter the jam", y.lines(0, 0, 0), 90);
        C.same("no matter the jam: earned", y.lines(0, 0, 1), 35);
        C.same("no matter the jam: jam", y.lines(0, 0, 2), 120);
        C.same("the least a, then b, without a jam", y.lines(0, 9, 0), 0);
        C.same("nobody pays", y.lines(0, 9, 1), 0);
        C.same("nobody waits", y.lines(0, 9, 2), 0);
        C.same("nobody at all", new ShadowTolls().lines(29, 9, 0), 0);
        C.refused("lines, day", ARGUMENT, () -> x.lines(30, 0, 0));
        C.refused("lines, j", ARGUMENT, () -> x.lines(0, 10, 0));
        C.refused("lines, j", ARGUMENT, () -> x.lines(0, -1, 0));
        C.refused("lines, what", ARGUMENT, () -> x.lines(0, 0, 3));
        C.same("the toll of the first stays", Checks.made(TWO, "pay 1;").law(0, 0), 0);
    }

    private static void war() {
        String one = ONE_SLOT + "traveller 100 10 600 600 0;";
        // one traveller, who pays 5 or 9, and 3 for the way to the second
        ShadowTolls x = Checks.made(one + "second 0 3;", "pay 5;", "pay 9;");
        C.same("no turns", x.war(0, 0, 0), 0);
        C.same("settled", x.war(0, 0, 1), 1);
        x.law(1, 1);
        C.same("as they are", x.war(0, 0, 0), 1);
        C.same("not settled", x.war(0, 0, 1), 0);
        C.same("the first begins", x.war(0, 1, 0), 11);
        C.same("the second", x.war(0, 2, 0), 10);
        C.same("the first again", x.war(0, 3, 0), 0);
        C.same("settled then", x.war(0, 3, 1), 1);
        C.same("20 turns", x.war(29, 20, 0), 0);
        C.same("nothing changed", x.law(1, 1), 1);
        ShadowTolls equal = Checks.made(one + "second 0 3;", "pay 5;", "pay 5;", "pay 4;");
        equal.law(0, 1);
        C.same("of equals the least", equal.war(0, 1, 0), 0);
        C.same("not settled by one that is as good", equal.war(0, 0, 1), 0);
        C.refused("war, day", ARGUMENT, () -> x.war(30, 0, 0));
        C.refused("war, turns 21", ARGUMENT, () -> x.war(0, 21, 0));
        C.refused("war, turns -1", ARGUMENT, () -> x.war(0, -1, 0));
        C.refused("war, what", ARGUMENT, () -> x.war(0, 0, 2));
        C.refused("no second", STATE, () -> Checks.made(one, "pay 1;").war(0, 0, 0));
        C.refused("no toll", STATE, () -> Checks.made(one + "second 0 0;").war(0, 0, 0));
        C.refused("wrong first", ARGUMENT, () -> new ShadowTolls().war(0, 21, 0));
    }

    private static void ledgerAndFits() {
        ShadowTolls x = Checks.made("sun 7 1350;traveller 100 10 0 1439 0;hat 0 9;", "pay shadow;", "pay shadow/weight+height/200*day;");
        C.same("all fit an empty ledger", x.fits(0, 1, 0), 30 * 351);
        C.same("the first", x.fits(0, 1, 1), 50);
        C.same("a row", x.ledger(720, 300), 1);
        C.same("300 or 100 high", x.fits(0, 1, 0), 30);
        C.same("day 0, 300", x.fits(0, 1, 1), 300);
        // 50 minutes before noon: 300*(5400-2500)/2500 = 348 till day 6; 100*(5400-1150)/1150 = 369 from day 7 on
        C.same("another row", x.ledger(670, 369), 2);
        C.same("from day 7 on", x.fits(0, 1, 0), 23);
        C.same("day 7, 100", x.fits(0, 1, 1), 7100);
        C.same("it goes", x.forget(), 2);
        C.same("it is gone", x.forget(), 0);
        C.same("all fit again", x.fits(0, 1, 0), 30 * 351);
        x.ledger(720, 1);
        C.same("no one pays 1", x.fits(0, 1, 0), 0);
        C.same("none", x.fits(0, 1, 1), -1);
        x.forget();
        x.ledger(720, 6);
        // weight 50: till day 6 shadow/50 + day if 200 high or more: 300 to 349 on day 0, 250 to 299 on day 1, 200 to 249 on day 2;
        // from day 7 on, when the shadow is three times as long, 6 is paid by 100 to 116
        C.same("weight and height", x.fits(1, 50, 0), 150 + 23 * 17);
        C.same("the first of them", x.fits(1, 50, 1), 300);
        ShadowTolls second = Checks.made("second 60 9;", "pay shadow;");
        second.ledger(720, 77);
        C.same("at the first bridge", second.fits(0, 1, 1), 77);
        for (int i = 1; i < 10; i++) {
            C.same("rows", x.ledger(1439, 9999), i + 1);
        }
        C.same("there are 10", x.ledger(0, 0), -1);
        C.same("still 10", x.count(1), 10);
        C.refused("ledger, minute", ARGUMENT, () -> x.ledger(1440, 0));
        C.refused("ledger, minute", ARGUMENT, () -> x.ledger(-1, 0));
        C.refused("ledger, coins", ARGUMENT, () -> x.ledger(0, 10000));
        C.refused("ledger, coins", ARGUMENT, () -> x.ledger(0, -1));
        C.refused("fits, toll", ARGUMENT, () -> x.fits(2, 1, 0));
        C.refused("fits, toll", ARGUMENT, () -> x.fits(-1, 1, 0));
        C.refused("fits, weight 0", ARGUMENT, () -> x.fits(0, 0, 0));
        C.refused("fits, weight 1000", ARGUMENT, () -> x.fits(0, 1000, 0));
        C.refused("fits, what", ARGUMENT, () -> x.fits(0, 1, 2));
    }

    /** Bits of the hours under clouds: the draws are worked in 64 bits. */
    private static int clouds(long seed, int below) {
        int bits = 0;
        for (int hour = 0; hour < 24; hour++) {
            seed = (seed * 1103515245L + 12345L) & 0xffffffffL;
            if ((seed >> 16 & 32767) % 16 < below) {
                bits |= 1 << hour;
            }
        }
        return bits;
    }

    private static void sky() {
        for (int below = 0; below <= 16; below++) {
            ShadowTolls x = Checks.made("cloud " + below + ";");
            for (int seed : new int[] {0, 1, 5, -1, Integer.MAX_VALUE, Integer.MIN_VALUE}) {
                C.same("sky of " + seed + " below " + below, x.sky(seed), clouds(seed & 0xffffffffL, below));
            }
        }
        C.same("no clouds", new ShadowTolls().sky(7), 0);
        // 1103515245 + 12345 = 0x41C67EA6 + ..: the first draw of seed 0 is 12345 >> 16 = 0, below 1
        C.same("the first draw is hour 0", Checks.made("cloud 1;").sky(0) & 1, 1);
    }

    private static void season() {
        String road = "keeper 600 840;falls 1;takes 60;traveller 100 10 720 720 0;traveller 200 20 660 660 0;";
        ShadowTolls x = Checks.made(road, "pay shadow;pay 1;");
        C.same("without clouds", x.season(0, 2, 5), 2 * (101 + 210));
        ShadowTolls y = Checks.made(road + "cloud 16;", "pay shadow;pay 1;");
        C.same("under clouds alone", y.season(27, 3, 5), 6);
        ShadowTolls z = Checks.made(road + "cloud 8;", "pay shadow;pay 1;");
        for (int seed = 1; seed < 20; seed++) {
            int due = 0;
            long now = seed;
            for (int day = 0; day < 3; day++) {
                int bits = clouds(now, 8);
                due += 2 + ((bits >> 12 & 1) == 1 ? 0 : 100) + ((bits >> 11 & 1) == 1 ? 0 : 209);
                for (int i = 0; i < 24; i++) {
                    now = (now * 1103515245L + 12345L) & 0xffffffffL;
                }
            }
            C.same("the seed goes on " + seed, z.season(4, 3, seed), due);
        }
        C.same("shade too", Checks.made(road + "shade;", "pay shadow;pay 1;").season(0, 1, 1), 1 + 210);
        C.same("30 days", x.season(0, 30, 1), 30 * 311);
        C.same("day 29", x.season(29, 1, 1), 311);
        C.refused("season(30, 1, 0)", ARGUMENT, () -> x.season(30, 1, 0));
        C.refused("season(-1, 1, 0)", ARGUMENT, () -> x.season(-1, 1, 0));
        C.refused("season(0, 0, 0)", ARGUMENT, () -> x.season(0, 0, 0));
        C.refused("season(0, 31, 0)", ARGUMENT, () -> x.season(0, 31, 0));
        C.refused("season(29, 2, 0)", ARGUMENT, () -> x.season(29, 2, 0));
        C.refused("season(1, MAX, 0)", ARGUMENT, () -> x.season(1, Integer.MAX_VALUE, 0));
    }

    private static void span() {
        ShadowTolls x = Checks.made("cloud 8;keeper 600 840;falls 1;takes 60;traveller 100 10 720 720 0;traveller 200 20 660 660 0;", "pay shadow;");
        for (int seed : new int[] {1, -3, Integer.MAX_VALUE - 2}) {
            int least = Integer.MAX_VALUE;
            int greatest = 0;
            for (int i = 0; i < 7; i++) {
                least = Math.min(least, x.season(2, 4, seed + i));
                greatest = Math.max(greatest, x.season(2, 4, seed + i));
            }
            C.same("the least from " + seed, x.span(2, 4, seed, 7, 0), least);
            C.same("the greatest from " + seed, x.span(2, 4, seed, 7, 1), greatest);
        }
        C.same("of one", x.span(0, 2, 9, 1, 0), x.season(0, 2, 9));
        C.same("of one", x.span(0, 2, 9, 1, 1), x.season(0, 2, 9));
        C.same("50 seeds, and all 30 days", x.span(0, 30, 9, 50, 0) < x.span(0, 30, 9, 50, 1) ? 1 : 0, 1);
        C.refused("span, day", ARGUMENT, () -> x.span(30, 1, 0, 1, 0));
        C.refused("span, days", ARGUMENT, () -> x.span(28, 3, 0, 1, 0));
        C.refused("span, days", ARGUMENT, () -> x.span(28, 0, 0, 1, 0));
        C.refused("span, m 0", ARGUMENT, () -> x.span(0, 1, 0, 0, 0));
        C.refused("span, m 51", ARGUMENT, () -> x.span(0, 1, 0, 51, 0));
        C.refused("span, what", ARGUMENT, () -> x.span(0, 1, 0, 1, 2));
    }

    private static void images() {
        ShadowTolls x = Checks.made(TWO + "second 0 0;", "pay shadow;", "pay 7;");
        C.same("no image", x.restore(), -1);
        x.law(0, 1);
        x.cross(0, 0, 3, 720);
        x.write(3, 5);
        x.ledger(720, 100);
        C.same("an image", x.image(), 1);
        x.law(0, 0);
        x.law(1, 1);
        x.cross(0, 0, 4, 720);
        x.write(3, 6);
        x.write(4, 6);
        x.ledger(720, 1);
        C.same("another", x.image(), 2);
        x.undo();
        x.undo();
        x.forget();
        C.same("a third", x.image(), 3);
        C.same("no fourth", x.image(), -1);
        C.same("three", x.count(3), 3);
        Checks.toll(x, "pay 9;");
        C.same("back to the third", x.restore(), 2);
        C.same("nothing crossed", x.taken(-1), 0);
        C.same("back to the second", x.restore(), 1);
        C.same("two crossed", x.taken(-1), 107);
        C.same("two days", x.count(2), 2);
        C.same("two rows", x.count(1), 2);
        C.same("back to the first", x.restore(), 0);
        C.same("tolls told stay", x.told(9), 3);
        C.same("the first's toll", x.law(0, 0), 1);
        C.same("the second's toll", x.law(1, 0), 0);
        C.same("one crossed", x.taken(-1), 7);
        C.same("on day 3", x.taken(3), 7);
        C.same("written", x.write(3, -1), 5);
        C.same("nothing of day 4", x.write(4, -1), -1);
        C.same("one row", x.fits(0, 1, 0), 30);
        C.same("none is left", x.restore(), -1);
        C.same("no more", x.count(3), 0);
    }

    private static void count() {
        ShadowTolls x = Checks.made(TWO, "pay 1;");
        x.cross(0, 0, 0, 700);
        x.ledger(1, 1);
        x.ledger(1, 1);
        x.write(0, 1);
        x.write(1, 1);
        x.write(2, 1);
        x.image();
        x.feed(0, 0, 0, 0, 0);
        int[] due = {1, 2, 3, 1, 20};
        for (int what = 0; what < due.length; what++) {
            C.same("count " + what, x.count(what), due[what]);
        }
        C.same("others", x.count(5), -1);
        C.same("others", x.count(-1), -1);
        C.same("others", x.count(Integer.MIN_VALUE), -1);
    }
}
