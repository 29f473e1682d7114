/** The edges of CROSSINGS, BOOKS, LEDGER, SKIES and IMAGES: each sentence of parts 3 and 4, promises 19 to 24 and 27 to 35 that names one. */
public final class BookEdgeTest {
    private static final Checks C = new Checks("BookEdgeTest");
    private static final String ROAD = "falls 1;keeper 600 840;takes 60;second 0 9;traveller 100 10 590 850 0;traveller 200 20 660 720 1;";
    private static final int ALL_FIT = 30 * 351;

    public static void main(String[] args) {
        crossings();
        whenOpen();
        coinsOfCrossings();
        undo();
        taken();
        write();
        stolen();
        much();
        ledger();
        fits();
        fitsAtEdges();
        fitsWho();
        sky();
        season();
        seasonDays();
        span();
        image();
        restore();
        count();
        C.end();
    }

    private static ShadowTolls made() {
        return Checks.made(ROAD, "pay shadow;", "pay 7;", "pay 0;");
    }

    private static void crossings() {
        C.edge("Part 3: CROSSINGS, 60 at most (Promise 19: -1: there are 60)", () -> {
            ShadowTolls x = made();
            x.law(0, 1);
            for (int i = 0; i < 60; i++) {
                C.same("crossing " + i, x.cross(i % 2, 0, i % 30, 700), i % 2 == 0 ? 7 : 100 * 2720 / 2680);
                C.same("so many", x.count(0), i + 1);
            }
            int taken = x.taken(-1);
            for (int i = 0; i < 3; i++) {
                C.same("one more", x.cross(0, 0, 3, 700), -1);
            }
            C.same("one when it is shut", x.cross(0, 0, 3, 0), -1);
            C.same("still 60", x.count(0), 60);
            C.same("as much taken", x.taken(-1), taken);
            C.same("the latest is the sixtieth", x.undo(), 101);
            C.same("room for one", x.cross(0, 0, 3, 700), 7);
            C.same("no more room", x.cross(0, 0, 3, 700), -1);
        });
        C.edge("Part 3: 60 at most, of the most COINS", () -> {
            ShadowTolls x = Checks.made(ROAD, "pay 9999;");
            for (int i = 0; i < 60; i++) {
                x.cross(0, 0, 29, 700);
            }
            C.same("of the day", x.taken(29), 60 * 9999);
            C.same("of all", x.taken(-1), 60 * 9999);
            x.write(29, 0);
            C.same("stolen", x.stolen(29), 60 * 9999);
        });
    }

    private static void whenOpen() {
        C.edge("Promise 19: -2: the bridge is not open", () -> {
            ShadowTolls x = made();
            C.same("ahead of F", x.cross(0, 0, 3, 599), -2);
            C.same("F", x.cross(0, 0, 3, 600), 109);
            C.same("T", x.cross(0, 0, 3, 840), 109);
            C.same("behind T", x.cross(0, 0, 3, 841), -2);
            C.same("the second, ahead of F", x.cross(1, 0, 3, 599), -2);
            C.same("the second, F", x.cross(1, 0, 3, 600), 109);
            C.same("the second, T", x.cross(1, 0, 3, 840), 109);
            C.same("the second, behind T", x.cross(1, 0, 3, 841), -2);
            C.same("the first minute", x.cross(0, 0, 3, 0), -2);
            C.same("the last minute", x.cross(0, 0, 3, 1439), -2);
            C.same("those alone that are", x.count(0), 4);
            C.same("taken", x.taken(3), 4 * 109);
        });
        C.edge("Promise 19: or he may not come then", () -> {
            ShadowTolls x = made();
            C.same("ahead of F", x.cross(0, 1, 3, 659), -2);
            C.same("F", x.cross(0, 1, 3, 660), 209);
            C.same("T", x.cross(0, 1, 3, 720), 200);
            C.same("behind T", x.cross(0, 1, 3, 721), -2);
            C.same("those alone that are", x.count(0), 2);
        });
        C.edge("Terms: MINUTES 0 to 1,439, of a CROSSING", () -> {
            ShadowTolls x = Checks.made("keeper 0 1439;traveller 100 10 0 1439 0;", "pay 5+hour;");
            C.same("the first", x.cross(0, 0, 0, 0), 5);
            C.same("the last", x.cross(0, 0, 29, 1439), 28);
        });
    }

    private static void coinsOfCrossings() {
        C.edge("Part 3: COINS as told then", () -> {
            ShadowTolls x = made();
            x.cross(0, 0, 3, 720);
            x.law(0, 1);
            Checks.toll(x, "pay 9;");
            C.same("the toll is another one", x.taken(3), 100);
            C.same("undone as told then", x.undo(), 100);
        });
        C.edge("Part 3: alone (no shade, no clouds)", () -> {
            ShadowTolls x = Checks.made(ROAD + "shade;cloud 16;", "pay shadow;");
            C.same("the higher one", x.cross(0, 1, 3, 660), 209);
            C.same("the lower one right behind", x.cross(0, 0, 3, 720), 100);
            C.same("in the same minute", x.cross(0, 0, 3, 660), 104);
        });
        C.edge("Part 3: by the TOLL that bridge has then", () -> {
            ShadowTolls x = made();
            x.law(1, 1);
            C.same("the second's", x.cross(1, 0, 3, 720), 7);
            C.same("the first's", x.cross(0, 0, 3, 720), 100);
            C.same("no toll", Checks.made(ROAD).cross(0, 0, 3, 720), 0);
        });
        C.edge("Promise 19: its COINS: no waiting, no way", () -> {
            ShadowTolls x = Checks.made("second 0 99;traveller 100 10 0 1439 9;", "pay 5;");
            C.same("at the second", x.cross(1, 0, 0, 1080), 5);
        });
    }

    private static void undo() {
        C.edge("Promise 20: -1: there is none", () -> {
            ShadowTolls x = made();
            C.same("a new one", x.undo(), -1);
            x.cross(0, 0, 3, 599);
            C.same("one that was refused is none", x.undo(), -1);
            x.cross(0, 0, 3, 720);
            C.same("one", x.undo(), 100);
            C.same("then none", x.undo(), -1);
            C.same("still none", x.count(0), 0);
        });
        C.edge("Promise 20: The latest CROSSING is undone: its COINS", () -> {
            ShadowTolls x = made();
            x.cross(0, 0, 3, 720);
            x.cross(0, 1, 2, 720);
            x.law(0, 2);
            x.cross(0, 0, 1, 720);
            C.same("one of no coins", x.undo(), 0);
            C.same("the second", x.undo(), 200);
            C.same("of its day", x.taken(2), 0);
            C.same("the first is left", x.taken(-1), 100);
        });
    }

    private static void taken() {
        C.edge("Promise 21: COINS of all CROSSINGS of a DAY (NONE: of all)", () -> {
            ShadowTolls x = made();
            C.same("none, of all", x.taken(-1), 0);
            C.same("none, of a day", x.taken(0), 0);
            x.cross(0, 0, 0, 720);
            x.cross(0, 1, 29, 720);
            x.cross(0, 0, 29, 720);
            C.same("day 0", x.taken(0), 100);
            C.same("day 1", x.taken(1), 0);
            C.same("day 28", x.taken(28), 0);
            C.same("day 29", x.taken(29), 300);
            C.same("of all", x.taken(-1), 400);
        });
    }

    private static void write() {
        C.edge("Part 3: (0 to 99,999; nothing at first)", () -> {
            ShadowTolls x = made();
            for (int day = 0; day < 30; day++) {
                C.same("nothing of day " + day, x.write(day, 99999 - day), -1);
                C.same("so many days", x.count(2), day + 1);
            }
            for (int day = 0; day < 30; day++) {
                C.same("what was written of day " + day, x.write(day, 0), 99999 - day);
            }
            C.same("0 is written", x.write(29, 5), 0);
            C.same("30 days", x.count(2), 30);
        });
        C.edge("Promise 22: (NONE: nothing any more)", () -> {
            ShadowTolls x = made();
            C.same("nothing was", x.write(3, -1), -1);
            C.same("no day", x.count(2), 0);
            x.write(3, 0);
            C.same("one day", x.count(2), 1);
            C.same("0 was", x.write(3, -1), 0);
            C.same("no day any more", x.count(2), 0);
            C.same("nothing is", x.write(3, 8), -1);
        });
    }

    private static void stolen() {
        C.edge("Part 3: COINS of its CROSSINGS less what is written", () -> {
            ShadowTolls x = made();
            x.cross(0, 0, 3, 720);
            x.cross(0, 0, 4, 720);
            x.write(3, 99);
            C.same("1", x.stolen(3), 1);
            x.write(3, 100);
            C.same("as much", x.stolen(3), 0);
            x.write(3, 101);
            C.same("below 0", x.stolen(3), -1);
            x.write(3, 0);
            C.same("0 is written", x.stolen(3), 100);
            x.write(29, 99999);
            C.same("no crossing", x.stolen(29), -99999);
        });
        C.edge("Promise 23: 0, if nothing is written", () -> {
            ShadowTolls x = made();
            C.same("no crossing", x.stolen(3), 0);
            x.cross(0, 0, 3, 720);
            C.same("a crossing", x.stolen(3), 0);
            x.write(3, 5);
            x.write(3, -1);
            C.same("nothing any more", x.stolen(3), 0);
        });
    }

    private static void much() {
        C.edge("Part 3: TOO MUCH: a DAY of which more is written than MOST", () -> {
            ShadowTolls x = made();
            int most = x.most(3);
            C.same("most", most, 109 + 209);
            x.write(3, most);
            C.same("as much", x.much(), -1);
            x.write(3, most + 1);
            C.same("one more", x.much(), 3);
            x.law(0, 1);
            x.write(3, 14);
            C.same("as much by the toll of now", x.much(), -1);
            x.write(3, 15);
            C.same("one more by the toll of now", x.much(), 3);
        });
        C.edge("Part 3: more is written than MOST, of 0", () -> {
            ShadowTolls x = new ShadowTolls();
            x.write(0, 0);
            C.same("0", x.much(), -1);
            x.write(0, 1);
            C.same("1", x.much(), 0);
        });
        C.edge("Promise 24: The first DAY of TOO MUCH; NONE", () -> {
            ShadowTolls x = made();
            C.same("nothing is written", x.much(), -1);
            x.write(29, 99999);
            C.same("the last day", x.much(), 29);
            x.write(28, 318);
            C.same("the last day still", x.much(), 29);
            x.write(0, 99999);
            C.same("the first day", x.much(), 0);
            x.write(0, -1);
            C.same("the last day again", x.much(), 29);
            x.write(29, -1);
            C.same("none", x.much(), -1);
        });
    }

    private static void ledger() {
        C.edge("Part 4: LEDGER, 10 rows at most (Promise 27: -1: there are 10)", () -> {
            ShadowTolls x = made();
            for (int i = 1; i <= 10; i++) {
                C.same("row " + i, x.ledger(720, 100), i);
                C.same("so many", x.count(1), i);
            }
            C.same("one more", x.ledger(720, 9999), -1);
            C.same("still 10", x.count(1), 10);
            C.same("the ten fit, the eleventh is not there", x.fits(0, 1, 0), 30);
            C.same("ten go", x.forget(), 10);
            C.same("room again", x.ledger(720, 100), 1);
        });
        C.edge("Promise 28: It goes: how many rows", () -> {
            ShadowTolls x = made();
            C.same("none", x.forget(), 0);
            x.ledger(720, 100);
            C.same("one", x.forget(), 1);
            C.same("none then", x.forget(), 0);
            C.same("all fit", x.fits(0, 1, 0), ALL_FIT);
        });
    }

    private static int fitsBy(String toll, int minute, int coins, int what) {
        ShadowTolls x = Checks.made("feast 0;feast 29;", toll);
        x.ledger(minute, coins);
        return x.fits(0, 10, what);
    }

    private static void fits() {
        C.edge("Part 4: FITS: of all DAYS and HEIGHTS", () -> {
            ShadowTolls x = made();
            C.same("an empty ledger", x.fits(0, 1, 0), ALL_FIT);
            C.same("the first of them", x.fits(0, 999, 1), 50);
        });
        C.edge("Part 4: HEIGHTS (50 to 400)", () -> {
            C.same("49", fitsBy("pay height;", 720, 49, 0), 0);
            C.same("50", fitsBy("pay height;", 720, 50, 0), 30);
            C.same("50 is the first", fitsBy("pay height;", 720, 50, 1), 50);
            C.same("400", fitsBy("pay height;", 720, 400, 0), 30);
            C.same("400 is the first", fitsBy("pay height;", 720, 400, 1), 400);
            C.same("401", fitsBy("pay height;", 720, 401, 0), 0);
            C.same("the first is the lowest", fitsBy("pay 1 if height>398;", 720, 1, 1), 399);
        });
        C.edge("Part 4: FITS: of all DAYS (DAY by DAY)", () -> {
            C.same("day 0", fitsBy("pay day;", 720, 0, 0), 351);
            C.same("day 29", fitsBy("pay day;", 720, 29, 0), 351);
            C.same("day 29, 50", fitsBy("pay day;", 720, 29, 1), 29050);
            C.same("day 30", fitsBy("pay day;", 720, 30, 0), 0);
            C.same("day 29, 400", fitsBy("pay day*height;", 720, 29 * 400 - 1700, 1), fitsFirst(29 * 400 - 1700));
            C.same("the last of all", fitsBy("pay 1 if day=29 and height=400;", 720, 1, 1), 29400);
            C.same("and the only one", fitsBy("pay 1 if day=29 and height=400;", 720, 1, 0), 1);
            C.same("feasts", fitsBy("pay feast;", 720, 1, 0), 2 * 351);
        });
    }

    private static int fitsFirst(int product) {
        for (int day = 0; day < 30; day++) {
            for (int height = 50; height <= 400; height++) {
                if (day * height == product) {
                    return 1000 * day + height;
                }
            }
        }
        return -1;
    }

    private static void fitsAtEdges() {
        C.edge("Promise 29: 1,000 times the first DAY, and the HEIGHT (NONE)", () -> {
            C.same("none", fitsBy("pay 5;", 720, 6, 1), -1);
            C.same("how many of none", fitsBy("pay 5;", 720, 6, 0), 0);
            C.same("day 0", fitsBy("pay 5;", 720, 5, 1), 50);
        });
        C.edge("Part 4: pays all these", () -> {
            ShadowTolls x = Checks.made("", "pay height+hour;", "");
            x.ledger(0, 100);
            C.same("one row", x.fits(0, 1, 1), 100);
            x.ledger(1439, 123);
            C.same("two rows", x.fits(0, 1, 0), 30);
            x.ledger(0, 100);
            C.same("one of them twice", x.fits(0, 1, 0), 30);
            x.ledger(0, 101);
            C.same("one against another", x.fits(0, 1, 0), 0);
            C.same("none", x.fits(0, 1, 1), -1);
            C.same("all pay nothing by the other", Checks.made("", "").fits(0, 1, 0), ALL_FIT);
        });
        C.edge("Part 4: a MINUTE, COINS (0 to 1,439, 0 to 9,999)", () -> {
            C.same("minute 0", fitsBy("pay 10+hour;", 0, 10, 0), ALL_FIT);
            C.same("minute 1439", fitsBy("pay 10+hour;", 1439, 33, 0), ALL_FIT);
            C.same("no coins", fitsBy("pay 0-1;", 720, 0, 0), ALL_FIT);
            C.same("9,999 coins", fitsBy("pay 9999*9;", 720, 9999, 0), ALL_FIT);
        });
        C.edge("Part 4: a told WEIGHT", () -> {
            ShadowTolls x = Checks.made("traveller 50 5 0 0 0;", "pay weight;");
            x.ledger(720, 999);
            C.same("999", x.fits(0, 999, 0), ALL_FIT);
            C.same("998", x.fits(0, 998, 0), 0);
            x.forget();
            x.ledger(720, 1);
            C.same("1", x.fits(0, 1, 0), ALL_FIT);
            C.same("2", x.fits(0, 2, 0), 0);
        });
    }

    private static void fitsWho() {
        C.edge("Part 4: (no hat, not lying)", () -> {
            ShadowTolls x = Checks.made("traveller 100 10 0 1439 0;hat 0 99;lies 0 10;", "pay height;");
            x.ledger(720, 100);
            C.same("100 high", x.fits(0, 10, 1), 100);
            x.forget();
            x.ledger(720, 10);
            C.same("nobody pays 10", x.fits(0, 10, 0), 0);
            x.forget();
            x.ledger(720, 450);
            C.same("nobody pays 450", x.fits(0, 10, 0), 0);
        });
        C.edge("Part 4: at the first bridge by a TOLL", () -> {
            ShadowTolls x = Checks.made("second 60 0;shade;cloud 16;lamp 1800;falls 9;", "pay shadow;", "pay 5;");
            x.law(0, 1);
            x.law(1, 1);
            x.ledger(720, 100);
            C.same("the first's noon, by the toll that is asked for", x.fits(0, 10, 1), 100);
            C.same("not by the other", x.fits(1, 10, 1), -1);
            x.ledger(0, 200);
            C.same("the lamp at night", x.fits(0, 10, 1), 100);
        });
    }

    /** The draws of a sky, worked in 64 bits: what a SEED has become behind so many, and the bits of the HOURS. */
    private static long seedBehind(long seed, int draws) {
        for (int i = 0; i < draws; i++) {
            seed = (seed * 1103515245L + 12345L) & 0xffffffffL;
        }
        return seed;
    }

    private static int cloudy(long seed, int below) {
        int bits = 0;
        for (int hour = 0; hour < 24; hour++) {
            bits |= (seedBehind(seed, hour + 1) >> 16 & 32767) % 16 < below ? 1 << hour : 0;
        }
        return bits;
    }

    private static void sky() {
        C.edge("Part 4: a DRAW of 16, below N it is under clouds", () -> {
            for (int below = 0; below <= 16; below++) {
                ShadowTolls x = Checks.made("cloud " + below + ";");
                for (int seed : new int[] {0, 1, 9, 1234567, -5}) {
                    C.same("seed " + seed + " below " + below, x.sky(seed), cloudy(seed, below));
                }
            }
        });
        C.edge("Terms: 0 to 16; 0 without: none, all of 24 HOURS", () -> {
            for (int seed = -50; seed < 50; seed++) {
                C.same("without", new ShadowTolls().sky(seed), 0);
                C.same("0", Checks.made("cloud 0;").sky(seed), 0);
                C.same("16", Checks.made("cloud 16;").sky(seed), 0xFFFFFF);
            }
        });
        C.edge("Part 4: the SEED (32 bits) (it wraps)", () -> {
            ShadowTolls x = Checks.made("cloud 8;");
            for (int seed : new int[] {Integer.MAX_VALUE, Integer.MIN_VALUE, -1, Integer.MAX_VALUE - 1, Integer.MIN_VALUE + 1}) {
                C.same("seed " + seed, x.sky(seed), cloudy(seed & 0xffffffffL, 8));
            }
        });
        C.edge("Part 4: for each of 24 HOURS", () -> {
            boolean first = false;
            boolean last = false;
            ShadowTolls x = Checks.made("cloud 8;");
            for (int seed = 0; seed < 40; seed++) {
                int bits = x.sky(seed);
                first |= (bits & 1) == 1;
                last |= (bits >> 23 & 1) == 1;
                C.same("no hour 24", bits >>> 24, 0);
            }
            C.same("hour 0 and hour 23", first && last ? 1 : 0, 1);
        });
        C.edge("Promise 30: a SKY is of its SEED alone", () -> {
            ShadowTolls x = Checks.made("cloud 8;");
            int due = x.sky(77);
            x.sky(5);
            x.season(0, 30, 3);
            C.same("again", x.sky(77), due);
        });
    }

    /** One crosses in the last minute of hour 10, one in the first of hour 11: the sky's bits 10 and 11 tell what they pay. */
    private static final String ELEVEN = "cloud 8;falls 1;keeper 659 661;takes 1;traveller 200 20 659 659 0;traveller 100 10 660 660 0;";

    private static int seasonDue(int days, long seed) {
        int coins = 0;
        for (int i = 0; i < days; i++) {
            int bits = cloudy(seedBehind(seed, 24 * i), 8);
            coins += 2 + ((bits >> 10 & 1) == 1 ? 0 : 209) + ((bits >> 11 & 1) == 1 ? 0 : 104);
        }
        return coins;
    }

    private static void season() {
        C.edge("Part 4: paid under its SKY, the SEED going on", () -> {
            ShadowTolls x = Checks.made(ELEVEN, "pay shadow;pay 1;");
            for (int seed : new int[] {0, 1, 2, 3, -1, Integer.MAX_VALUE, Integer.MIN_VALUE}) {
                for (int days = 1; days <= 30; days++) {
                    C.same(days + " days of " + seed, x.season(30 - days, days, seed), seasonDue(days, seed & 0xffffffffL));
                }
            }
        });
        C.edge("Part 4: each of 24 HOURS, hour 0 and hour 23", () -> {
            ShadowTolls x = Checks.made("cloud 8;lamp 2700;keeper 59 89;falls 9;traveller 100 10 59 59 0;", "pay shadow;");
            ShadowTolls late = Checks.made("cloud 8;lamp 2700;keeper 1380 1439;takes 59;falls 9;traveller 100 10 1380 1380 0;", "pay shadow;");
            for (int seed = 0; seed < 12; seed++) {
                int bits = cloudy(seed, 8);
                C.same("59 is of hour 0, seed " + seed, x.season(0, 1, seed), (bits & 1) == 1 ? 0 : 100);
                C.same("1380 is of hour 23, seed " + seed, late.season(0, 1, seed), (bits >> 23 & 1) == 1 ? 0 : 100);
            }
        });
        C.edge("Part 4: each by the best PLAN (as if without clouds)", () -> {
            // without clouds the later slot is the cheaper by its shorter shadow; under clouds both would cost 1 or 5
            String road = "falls 1;keeper 600 720;takes 60;traveller 100 10 600 660 0;";
            ShadowTolls x = Checks.made(road + "cloud 16;", "pay shadow;pay 1;pay 4 if hour=11;");
            C.same("the earlier costs 110, the later 109", x.plan(1, 0, false, 1), 109);
            C.same("so he pays 5", x.season(0, 1, 1), 5);
        });
        C.edge("Part 4: best PLAN of all at the first bridge", () -> {
            ShadowTolls x = Checks.made("keeper 600 630;second 0 0;traveller 100 10 600 600 0;traveller 100 10 600 600 0;", "pay weight;", "pay 1;");
            x.law(1, 1);
            C.same("one slot, one pays", x.season(0, 1, 1), 10);
            C.same("nobody", new ShadowTolls().season(0, 30, 1), 0);
            C.same("no toll", Checks.made("traveller 100 10 600 600 0;").season(0, 30, 1), 0);
            C.same("no slot", Checks.made("keeper 600 629;traveller 100 10 600 600 0;", "pay 5;").season(0, 30, 1), 0);
        });
    }

    private static void seasonDays() {
        C.edge("Part 4: so many DAYS (1 to 30) from one on", () -> {
            ShadowTolls x = Checks.made("keeper 600 630;traveller 100 10 600 600 0;", "pay 1+day;");
            C.same("day 0 alone", x.season(0, 1, 1), 1);
            C.same("day 29 alone", x.season(29, 1, 1), 30);
            C.same("all", x.season(0, 30, 1), 465);
            C.same("days 28, 29", x.season(28, 2, 1), 59);
            C.same("days 1 to 29", x.season(1, 29, 1), 464);
        });
        C.edge("Part 4: all COINS, of 30 DAYS and eight", () -> {
            ShadowTolls x = Checks.made("traveller 100 10 0 1439 9;".repeat(8), "pay 9999;");
            C.same("the most", x.season(0, 30, 1), 30 * 8 * 9999);
            C.same("span", x.span(0, 30, 1, 50, 1), 30 * 8 * 9999);
        });
    }

    private static int spanDue(int days, int seed, int m, boolean greatest) {
        int found = seasonDue(days, seed & 0xffffffffL);
        for (int i = 1; i < m; i++) {
            int next = seasonDue(days, seed + i & 0xffffffffL);
            found = greatest ? Math.max(found, next) : Math.min(found, next);
        }
        return found;
    }

    private static void span() {
        C.edge("Part 4: SEASON of m SEEDS (1 to 50): s, s and 1, ..", () -> {
            ShadowTolls x = Checks.made(ELEVEN, "pay shadow;pay 1;");
            for (int m : new int[] {1, 2, 3, 49, 50}) {
                C.same("the least of " + m, x.span(7, 2, 5, m, 0), spanDue(2, 5, m, false));
                C.same("the greatest of " + m, x.span(7, 2, 5, m, 1), spanDue(2, 5, m, true));
            }
        });
        C.edge("Part 4: SPAN: the last of m SEEDS counts, one more does not", () -> {
            ShadowTolls x = Checks.made(ELEVEN, "pay shadow;pay 1;");
            boolean counts = false;
            for (int seed = 0; seed < 60; seed++) {
                C.same("50 from " + seed, x.span(0, 5, seed, 50, 1), spanDue(5, seed, 50, true));
                C.same("50 from " + seed, x.span(0, 5, seed, 50, 0), spanDue(5, seed, 50, false));
                counts |= spanDue(5, seed, 49, true) != spanDue(5, seed, 50, true) || spanDue(5, seed, 49, false) != spanDue(5, seed, 50, false);
            }
            C.same("for one of them the fiftieth tells", counts ? 1 : 0, 1);
        });
        C.edge("Part 4: (wrapping)", () -> {
            ShadowTolls x = Checks.made(ELEVEN, "pay shadow;pay 1;");
            for (int m = 1; m <= 4; m++) {
                for (int seed = Integer.MAX_VALUE - 2; seed > 0; seed++) {
                    C.same("the least of " + m + " from " + seed, x.span(7, 2, seed, m, 0), spanDue(2, seed, m, false));
                    C.same("the greatest of " + m + " from " + seed, x.span(7, 2, seed, m, 1), spanDue(2, seed, m, true));
                }
                C.same("over 0", x.span(7, 2, -2, m, 1), spanDue(2, -2, m, true));
            }
        });
    }

    private static void image() {
        C.edge("Promise 33: how many there are; -1: there are 3", () -> {
            ShadowTolls x = made();
            for (int i = 1; i <= 3; i++) {
                x.write(i, i);
                C.same("image " + i, x.image(), i);
                C.same("so many", x.count(3), i);
            }
            x.write(4, 4);
            C.same("a fourth", x.image(), -1);
            C.same("three", x.count(3), 3);
            C.same("all else stays", x.count(2), 4);
            C.same("the third is the latest", x.restore(), 2);
            C.same("as it was then", x.count(2), 3);
            C.same("room again", x.image(), 3);
            C.same("no more room", x.image(), -1);
        });
        C.edge("Promise 33: An IMAGE of TOLLS of bridges, CROSSINGS, BOOKS, LEDGER: and of nothing else", () -> {
            ShadowTolls x = Checks.made(ROAD, "pay 5;");
            x.image();
            Checks.toll(x, "pay 6;");
            Checks.bridge(x, "rain;");
            x.feed(0, 0, 0, 0, 0);
            x.restore();
            C.same("tolls told since", x.told(9), 2);
            C.same("the place of the fault", x.fault(), 0);
            C.same("the tape", x.count(4), 20);
        });
    }

    private static void restore() {
        C.edge("Promise 34: -1: there is none", () -> {
            ShadowTolls x = made();
            x.cross(0, 0, 3, 720);
            x.write(3, 5);
            x.ledger(720, 5);
            x.law(0, 1);
            C.same("none", x.restore(), -1);
            C.same("crossings stay", x.taken(3), 100);
            C.same("books stay", x.count(2), 1);
            C.same("rows stay", x.count(1), 1);
            C.same("the toll stays", x.law(0, 0), 1);
            x.image();
            C.same("one", x.restore(), 0);
            C.same("none again", x.restore(), -1);
        });
        C.edge("Promise 34: All is as in the latest IMAGE, which is gone: how many are left", () -> {
            ShadowTolls x = made();
            fill(x, 1);
            x.image();
            fill(x, 2);
            x.image();
            fill(x, 0);
            C.same("one is left", x.restore(), 1);
            sameAs(x, 2);
            fill(x, 0);
            C.same("none is left", x.restore(), 0);
            sameAs(x, 1);
            fill(x, 2);
            C.same("the image is no part of what it was made of", x.image(), 1);
        });
        C.edge("Promise 34: rows of the LEDGER: MINUTE and COINS of each", () -> {
            ShadowTolls x = made();
            x.ledger(600, 109);
            x.image();
            x.forget();
            x.ledger(720, 120);
            C.same("the row of now", x.fits(0, 1, 1), 120);
            x.restore();
            C.same("the row of then", x.fits(0, 1, 1), 100);
        });
        C.edge("Promise 34: of an empty object, and of a full one", () -> {
            ShadowTolls x = made();
            x.image();
            for (int i = 0; i < 60; i++) {
                x.cross(0, 0, i % 30, 720);
                x.write(i % 30, i);
                x.ledger(720, 100);
            }
            x.image();
            fill(x, 1);
            C.same("the full one", x.restore(), 1);
            C.same("crossings", x.count(0), 60);
            C.same("rows", x.count(1), 10);
            C.same("days", x.count(2), 30);
            C.same("taken", x.taken(-1), 6000);
            C.same("taken of day 29", x.taken(29), 200);
            C.same("written of day 29", x.stolen(29), 200 - 59);
            C.same("written of day 0", x.stolen(0), 200 - 30);
            C.same("the last row", x.fits(0, 1, 1), 100);
            C.same("full", x.cross(0, 0, 0, 720), -1);
            C.same("full", x.ledger(0, 0), -1);
            C.same("the empty one", x.restore(), 0);
            for (int what = 0; what < 4; what++) {
                C.same("count " + what, x.count(what), 0);
            }
            C.same("nothing taken", x.taken(-1), 0);
            C.same("all fit", x.fits(0, 1, 0), ALL_FIT);
        });
    }

    /** Brings the object to one of three states, whatever it was. */
    private static void fill(ShadowTolls x, int n) {
        while (x.undo() != -1) {
            x.forget();
        }
        x.forget();
        for (int day = 3; day < 6; day++) {
            x.write(day, -1);
        }
        x.law(0, n);
        x.law(1, 2 - n);
        for (int i = 0; i < n; i++) {
            x.cross(1, 0, 3 + n, 720);
            x.write(3 + i, 70 + n);
            x.ledger(720, 100 * n);
        }
    }

    private static void sameAs(ShadowTolls x, int n) {
        int coins = n == 1 ? 7 : 100;
        C.same("crossings of " + n, x.count(0), n);
        C.same("rows of " + n, x.count(1), n);
        C.same("days of " + n, x.count(2), n);
        C.same("taken of " + n, x.taken(3 + n), n * coins);
        C.same("written of " + n, x.write(3, 70 + n), 70 + n);
        C.same("ledger of " + n, x.fits(0, 1, 1), 100 * n);
        C.same("the first's toll of " + n, x.law(0, n), n);
        C.same("the second's toll of " + n, x.law(1, 2 - n), 2 - n);
        C.same("undone of " + n, x.undo(), coins);
    }

    private static void count() {
        C.edge("Promise 35: 0 CROSSINGS, 1 rows of the LEDGER, 2 DAYS, 3 IMAGES, 4 bytes of the TAPE: none, and all there may be", () -> {
            ShadowTolls x = made();
            for (int what = 0; what < 5; what++) {
                C.same("none of " + what, x.count(what), 0);
            }
            for (int i = 0; i < 70; i++) {
                x.cross(0, 0, 0, 720);
                x.ledger(0, 0);
                x.write(i % 30, 99999);
                x.image();
                x.feed(0, 0, 0, 0, 0);
            }
            int[] due = {60, 10, 30, 3, 500};
            for (int what = 0; what < 5; what++) {
                C.same("all of " + what, x.count(what), due[what]);
            }
        });
    }
}
