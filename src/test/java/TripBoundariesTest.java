import java.math.BigInteger;

/**
 * Promises 4 to 13: a test of its own for each sentence on STATIONS, ways, CARRIERS, PATHS, TRIPS, sending, REST, SEED and
 * the book that names a boundary case. The sentence stands above its test.
 */
public final class TripBoundariesTest extends Checks {
    /** The greatest int, as an E. */
    private static final String GREATEST = "9999*9999*21 + 9999*4790 + 8416";
    /** The least int, as an E. */
    private static final String LOWEST = "0 - 9999*9999*21 - 9999*4790 - 8416 - 1";

    public static void main(String[] args) {
        runAll(TripBoundariesTest.class);
    }

    // ---- Promise 4: station

    /** "NONE: others": no such STATION. */
    static void promise04NoSuchStation() {
        SkinCarriers x = on(BASE);
        for (int station : new int[] {-1, 3, 7, LEAST, MOST}) {
            for (int what = 0; what < 3; what++) {
                due("station(" + station + ", " + what + ")", x.station(station, what), NONE);
            }
        }
        due("station(2, 0), the last", x.station(2, 0), 90);
        due("station(0, 0), the first", x.station(0, 0), 0);
    }

    /** "NONE: others": no such what. */
    static void promise04NoSuchWhat() {
        SkinCarriers x = on(BASE);
        for (int what : new int[] {-1, 3, LEAST, MOST}) {
            due("station(1, " + what + ")", x.station(1, what), NONE);
        }
    }

    /** The seventh STATION has it all, too. */
    static void promise04TheSeventhStation() {
        StringBuilder text = new StringBuilder();
        for (int i = 0; i < 7; i++) {
            text.append(station("s" + (char) ('a' + i), 10 * i, 9 - i));
        }
        SkinCarriers x = on(text.toString());
        for (int i = 0; i < 7; i++) {
            due("station(" + i + ", 0)", x.station(i, 0), 10 * i);
            due("station(" + i + ", 1)", x.station(i, 1), 9 - i);
            due("station(" + i + ", 2)", x.station(i, 2), 9 - i);
        }
        due("station(7, 2)", x.station(7, 2), NONE);
    }

    /** "2: what its fall still gives": all, a part, nothing. */
    static void promise04WhatItsFallStillGives() {
        SkinCarriers x = on(line(60, 9, 10, 0) + plainOnes(3, 9));
        due("station(1, 2)", x.station(1, 2), 9);
        x.send(0, 0, 1);
        due("station(1, 2)", x.station(1, 2), 1);
        due("station(1, 1)", x.station(1, 1), 9);
        x.send(1, 0, 1);
        due("station(1, 2)", x.station(1, 2), 0);
        x.send(2, 0, 1);
        due("station(1, 2)", x.station(1, 2), 0);
    }

    // ---- Promise 5: way

    /** "NONE: others": no such STATION, no such what. */
    static void promise05NoSuchStationOrWhat() {
        SkinCarriers x = on(BASE);
        for (int station : new int[] {-1, 3, 7, LEAST, MOST}) {
            due("way(" + station + ", 0, 0)", x.way(station, 0, 0), NONE);
            due("way(0, " + station + ", 0)", x.way(0, station, 0), NONE);
            due("way(" + station + ", " + station + ", 1)", x.way(station, station, 1), NONE);
        }
        for (int what : new int[] {-1, 2, LEAST, MOST}) {
            due("way(0, 1, " + what + ")", x.way(0, 1, what), NONE);
        }
        due("way(1, 2, 1), no thorns", x.way(1, 2, 1), 0);
    }

    /** "NONE: .. no way". */
    static void promise05NoWay() {
        SkinCarriers x = on(LINE);
        due("way(0, 2, 0)", x.way(0, 2, 0), NONE);
        due("way(2, 0, 1)", x.way(2, 0, 1), NONE);
        for (int station = 0; station < 3; station++) {
            due("way to itself", x.way(station, station, 0), NONE);
        }
    }

    // ---- Promise 6: carrier

    /** "NoSuchElementException: others": no such CARRIER. */
    static void promise06NoSuchCarrier() {
        SkinCarriers x = on(BASE);
        for (int carrier : new int[] {-1, 3, 6, LEAST, MOST}) {
            for (int what = 0; what < 7; what++) {
                due("carrier(" + carrier + ", " + what + ")", carrierOf(x, carrier, what), THROWN);
            }
        }
        due("carrier(2, 0), the last", carrierOf(x, 2, 0), 2);
    }

    /** "NoSuchElementException: others": no such what. */
    static void promise06NoSuchWhat() {
        SkinCarriers x = on(BASE);
        for (int what : new int[] {-1, 7, LEAST, MOST}) {
            due("carrier(0, " + what + ")", carrierOf(x, 0, what), THROWN);
        }
    }

    /** "1: what its skin holds": "a mule's holds twice as much". */
    static void promise06WhatItsSkinHolds() {
        due("a mule's", carrierOf(on(carrier("x", "mule", 60, 0, 0)), 0, 1), 120);
        due("a mule's", carrierOf(on(carrier("x", "mule", 1, 0, 0)), 0, 1), 2);
        for (String kind : new String[] {"plain", "goat", "cousin", "patched", "licker"}) {
            due("a " + kind + "'s", carrierOf(on(carrier("x", kind, 60, 0, 0)), 0, 1), 60);
        }
    }

    /** "4: 1 if it is PATCHED": by hand, not by its KIND. */
    static void promise06IfItIsPatched() {
        SkinCarriers x = on(carrier("x", "patched", 9, 0, 0) + carrier("y", "goat", 9, 0, 0));
        due("carrier(0, 4)", carrierOf(x, 0, 4), 0);
        x.patch(0, true);
        due("carrier(0, 4)", carrierOf(x, 0, 4), 1);
        due("carrier(1, 4)", carrierOf(x, 1, 4), 0);
        x.patch(0, false);
        due("carrier(0, 4)", carrierOf(x, 0, 4), 0);
    }

    /** "5: 1 if it was SENT since REST": with nothing, too; not if it was refused. */
    static void promise06IfItWasSent() {
        SkinCarriers x = on(LINE + plainOnes(2, 9));
        x.send(0, 0, 10);
        due("carrier(0, 5)", carrierOf(x, 0, 5), 0);
        x.send(0, 0, 0);
        due("carrier(0, 5)", carrierOf(x, 0, 5), 1);
        due("carrier(1, 5)", carrierOf(x, 1, 5), 0);
        x.rest();
        due("carrier(0, 5)", carrierOf(x, 0, 5), 0);
    }

    /** "6: what it was PAID in all": not since REST alone. */
    static void promise06WhatItWasPaidInAll() {
        SkinCarriers x = on(LINE + plainOnes(2, 9) + "price 99;spring 200;");
        for (int day = 1; day <= 5; day++) {
            x.send(0, 0, 9);
            due("carrier(0, 6)", carrierOf(x, 0, 6), day * 9 * 99);
            x.rest();
        }
        due("carrier(0, 6)", carrierOf(x, 0, 6), 5 * 9 * 99);
        due("carrier(1, 6)", carrierOf(x, 1, 6), 0);
    }

    // ---- Promises 7 and 8: paths, path

    /** "With one STATION there is one PATH". */
    static void promise07OneStation() {
        SkinCarriers x = on(station("a", 5, 5) + plainOnes(1, 9));
        due("paths()", x.paths(), 1);
        due("path(0, 0)", x.path(0, 0), 0);
        due("path(0, 1)", x.path(0, 1), NONE);
        due("trip(0, 0, 9, 0)", x.trip(0, 0, 9, 0), 9);
    }

    /** "without one none". */
    static void promise07NoStation() {
        SkinCarriers x = on(plainOnes(1, 9));
        due("paths()", x.paths(), 0);
        due("path(0, 0)", x.path(0, 0), NONE);
        due("trip(0, 0, 0, 0)", x.trip(0, 0, 0, 0), NONE);
        due("send(0, 0, 0)", x.send(0, 0, 0), NONE);
        due("best(0, 0, 0)", x.best(0, 0, 0), NONE);
    }

    /** "from STATION 0 by ways to the CITY": none without a way there. */
    static void promise07NoWayToTheCity() {
        due("two and no way", on(station("a", 1, 1) + station("b", 1, 1)).paths(), 0);
        due("a way, but not to the CITY", on(station("a", 1, 1) + station("b", 1, 1) + station("c", 1, 1) + way("a", "b", 1, 1)).paths(), 0);
        due("a way, but not from 0", on(station("a", 1, 1) + station("b", 1, 1) + station("c", 1, 1) + way("b", "c", 1, 1)).paths(), 0);
    }

    /** "over no STATION twice": a way back, a ring and a dead end give no PATH more. */
    static void promise07OverNoStationTwice() {
        String four = station("a", 1, 1) + station("b", 1, 1) + station("d", 1, 1) + station("c", 1, 1);
        SkinCarriers end = on(four + way("a", "b", 1, 1) + way("b", "d", 1, 1) + way("b", "c", 1, 1));
        due("paths() with a dead end", end.paths(), 1);
        SkinCarriers ring = on(four + way("a", "b", 1, 1) + way("b", "d", 1, 1) + way("d", "a", 1, 1) + way("b", "c", 1, 1));
        due("paths() with a ring", ring.paths(), 2);
        due("path(0, 1)", ring.path(0, 1), 1);
        due("path(1, 1)", ring.path(1, 1), 2);
        due("path(1, 2)", ring.path(1, 2), 1);
        due("path(1, 3)", ring.path(1, 3), 3);
        SkinCarriers through = on(four + way("a", "c", 1, 1) + way("c", "b", 1, 1) + way("b", "d", 1, 1) + way("d", "c", 1, 1));
        due("paths() end at the CITY", through.paths(), 1);
    }

    /** The most PATHS that there can be. */
    static void promise07TheMostPaths() {
        SkinCarriers x = on(richest());
        due("count(1)", x.count(1), 12);
        due("paths()", x.paths(), 37);
        for (int i = 0; i < 37; i++) {
            due("path(" + i + ", 0)", x.path(i, 0), 0);
        }
        due("path(37, 0)", x.path(37, 0), NONE);
    }

    /** "in order: row by row of STATIONS, least numbers first". */
    static void promise08LeastNumbersFirst() {
        String text = station("a", 1, 1) + station("b", 1, 1) + station("c", 1, 1) + station("d", 1, 1) + station("e", 1, 1)
            + way("e", "a", 1, 1) + way("e", "d", 1, 1) + way("e", "c", 1, 1) + way("e", "b", 1, 1) + way("d", "c", 1, 1)
            + way("d", "b", 1, 1) + way("d", "a", 1, 1) + way("c", "b", 1, 1) + way("c", "a", 1, 1) + way("b", "a", 1, 1);
        SkinCarriers x = on(text);
        String[] rows = {"01234", "0124", "01324", "0134", "014", "02134", "0214", "02314", "0234", "024",
            "03124", "0314", "03214", "0324", "034", "04"};
        due("paths()", x.paths(), rows.length);
        for (int p = 0; p < rows.length; p++) {
            for (int i = 0; i <= 5; i++) {
                due("path(" + p + ", " + i + ")", x.path(p, i), i < rows[p].length() ? rows[p].charAt(i) - '0' : NONE);
            }
        }
    }

    /** "NONE: others". */
    static void promise08Others() {
        SkinCarriers x = on(BASE);
        for (int path : new int[] {-1, 2, 37, LEAST, MOST}) {
            due("path(" + path + ", 0)", x.path(path, 0), NONE);
        }
        for (int i : new int[] {-1, 3, 7, LEAST, MOST}) {
            due("path(0, " + i + ")", x.path(0, i), NONE);
        }
        due("path(0, 2), the CITY", x.path(0, 2), 2);
        due("path(1, 1), the CITY", x.path(1, 1), 2);
        due("path(1, 2), beyond it", x.path(1, 2), NONE);
    }

    // ---- Promise 9: trip

    /** Two STATIONS and a way. */
    private static String pair(int minutes, int thorns) {
        return station("a", 0, 0) + station("b", 0, 0) + way("a", "b", minutes, thorns);
    }

    private static int leaked(String kind, int skin, int leak, int minutes, int thorns) {
        SkinCarriers x = on(pair(minutes, thorns) + carrier("x", kind, skin, leak, 9));
        return whatOf(x, carrierOf(x, 0, 1), 3);
    }

    /** Of CARRIER 0's TRIP by PATH 0, on which no mouthful gets lost or comes from nowhere. */
    private static int whatOf(SkinCarriers x, int load, int what) {
        due("left, drunk and leaked together", x.trip(0, 0, load, 0) + x.trip(0, 0, load, 2) + x.trip(0, 0, load, 3), load);
        return x.trip(0, 0, load, what);
    }

    /** "a load (0 to what its skin holds; a mule's holds twice as much)". */
    static void promise09LoadsThatGoIn() {
        SkinCarriers x = on(LINE + carrier("x", "plain", 60, 0, 0) + carrier("m", "mule", 60, 0, 0) + carrier("y", "goat", 1, 0, 0));
        int[] holds = {60, 120, 1};
        for (int c = 0; c < 3; c++) {
            due("trip of nothing", x.trip(c, 0, 0, 0), 0);
            due("trip of a full skin", x.trip(c, 0, holds[c], 0), holds[c]);
            for (int what = 0; what < 4; what++) {
                due("trip of one more", x.trip(c, 0, holds[c] + 1, what), NONE);
                due("trip of less than nothing", x.trip(c, 0, -1, what), NONE);
            }
            due("trip of the most", x.trip(c, 0, MOST, 0), NONE);
            due("trip of the least", x.trip(c, 0, LEAST, 0), NONE);
        }
    }

    /** "NONE: others": no such CARRIER, PATH, what. */
    static void promise09Others() {
        SkinCarriers x = on(BASE);
        for (int wrong : new int[] {-1, 3, 6, LEAST, MOST}) {
            due("trip(" + wrong + ", 0, 0, 0)", x.trip(wrong, 0, 0, 0), NONE);
        }
        for (int wrong : new int[] {-1, 2, 37, LEAST, MOST}) {
            due("trip(0, " + wrong + ", 0, 0)", x.trip(0, wrong, 0, 0), NONE);
        }
        for (int wrong : new int[] {-1, 4, LEAST, MOST}) {
            due("trip(0, 0, 0, " + wrong + ")", x.trip(0, 0, 0, wrong), NONE);
        }
    }

    /** "it leaks leak * long / 10, cut". */
    static void promise09TheLeakIsCut() {
        due("1 * 9 / 10", leaked("plain", 60, 1, 9, 0), 0);
        due("1 * 10 / 10", leaked("plain", 60, 1, 10, 0), 1);
        due("1 * 19 / 10", leaked("plain", 60, 1, 19, 0), 1);
        due("3 * 3 / 10", leaked("plain", 60, 3, 3, 0), 0);
        due("20 * 1 / 10", leaked("plain", 60, 20, 1, 0), 2);
        due("0 * 99 / 10", leaked("plain", 60, 0, 99, 0), 0);
        due("6 * 99 / 10", leaked("plain", 60, 6, 99, 0), 59);
        due("12 * 99 / 10", leaked("mule", 60, 12, 99, 0), 118);
        SkinCarriers x = on(line(0, 0, 15, 0) + carrier("x", "plain", 60, 1, 0));
        due("cut on each way", x.trip(0, 0, 60, 3), 2);
    }

    /** "(patched, or PATCHED by hand: half of it, cut)". */
    static void promise09HalfOfTheLeakIsCut() {
        due("half of 0", leaked("patched", 60, 1, 9, 0), 0);
        due("half of 1", leaked("patched", 60, 1, 10, 0), 0);
        due("half of 2", leaked("patched", 60, 2, 10, 0), 1);
        due("half of 3", leaked("patched", 60, 3, 10, 0), 1);
        due("half of 3 with thorns, which are whole", leaked("patched", 60, 3, 10, 5), 6);
        SkinCarriers x = on(pair(10, 5) + carrier("x", "plain", 60, 3, 0) + carrier("y", "patched", 60, 3, 0) + carrier("z", "goat", 60, 3, 0));
        for (int c = 0; c < 3; c++) {
            x.patch(c, true);
        }
        due("by hand", x.trip(0, 0, 60, 3), 6);
        due("patched and by hand: half, once", x.trip(1, 0, 60, 3), 6);
        due("a goat by hand", x.trip(2, 0, 60, 3), 1);
        x.patch(0, false);
        x.patch(1, false);
        due("not any more", x.trip(0, 0, 60, 3), 8);
        due("patched still", x.trip(1, 0, 60, 3), 6);
    }

    /** "and by thorns so much more (a goat: none)". */
    static void promise09ThornsAndAGoat() {
        for (String kind : new String[] {"plain", "mule", "cousin", "licker", "patched"}) {
            due("a " + kind + " without thorns", leaked(kind, 60, 0, 10, 0), 0);
            due("a " + kind + " and 9 thorns", leaked(kind, 60, 0, 10, 9), 9);
        }
        due("a goat and 9 thorns", leaked("goat", 60, 0, 10, 9), 0);
        due("a goat's leak and 9 thorns", leaked("goat", 60, 3, 10, 9), 3);
    }

    /** "it leaks .., what is in it at most". */
    static void promise09LeaksWhatIsInItAtMost() {
        SkinCarriers x = on(pair(10, 2) + carrier("x", "plain", 60, 3, 0));
        for (int load = 0; load <= 5; load++) {
            due("trip(0, 0, " + load + ", 3)", x.trip(0, 0, load, 3), load);
            due("trip(0, 0, " + load + ", 0)", x.trip(0, 0, load, 0), 0);
        }
        due("trip(0, 0, 6, 3)", x.trip(0, 0, 6, 3), 5);
        due("trip(0, 0, 6, 0)", x.trip(0, 0, 6, 0), 1);
        due("20 * 99 / 10 and 9 thorns", leaked("mule", 60, 20, 99, 9), 120);
        SkinCarriers two = on(line(0, 0, 10, 0) + carrier("x", "plain", 60, 3, 0));
        due("on both ways together", two.trip(0, 0, 5, 3), 5);
    }

    /** "at the STATION where it comes to, but the CITY, it drinks": not at the spring either. */
    static void promise09DrinksAtNeitherEnd() {
        SkinCarriers ends = on(pair(10, 0) + carrier("x", "plain", 9, 0, 9));
        due("drunk on one way", ends.trip(0, 0, 9, 2), 0);
        SkinCarriers line = on(LINE + carrier("x", "plain", 9, 0, 4));
        due("drunk on two ways", line.trip(0, 0, 9, 2), 4);
        SkinCarriers three = on(LINE + station("d", 0, 0) + way("c", "d", 10, 0) + carrier("x", "plain", 9, 0, 4));
        due("drunk on three ways", three.trip(0, 0, 9, 2), 8);
        SkinCarriers one = on(station("a", 0, 0) + carrier("x", "plain", 9, 9, 9));
        due("drunk with one STATION", one.trip(0, 0, 9, 2), 0);
        due("leaked with one STATION", one.trip(0, 0, 9, 3), 0);
        due("minutes with one STATION", one.trip(0, 0, 9, 1), 0);
    }

    /** What a CARRIER of thirst 7, who owes 4, drinks of 60 at high 60 ten minutes away. */
    private static int drunkBy(String kind, String law) {
        SkinCarriers x = on(LINE + carrier("x", kind, 60, 0, 7) + carrier("y", "plain", 9, 0, 0) + "owes x y 4;drink " + law + ";");
        return whatOf(x, 60, 2);
    }

    /** "it drinks the E of drink .., 0 at least". */
    static void promise09DrinksNothingAtLeast() {
        due("0", drunkBy("plain", "0"), 0);
        due("1", drunkBy("plain", "1"), 1);
        due("-1", drunkBy("plain", "0 - 1"), 0);
        due("the least int", drunkBy("plain", LOWEST), 0);
        due("a goat's -1", drunkBy("goat", "0 - 1"), 0);
    }

    /** "0 at least", "what is in the skin at most": what is left tells it, too, SENT as well. */
    static void promise09WhatIsLeftBehindADrinking() {
        int[][] rows = {{-1, 9}, {0, 9}, {1, 8}, {8, 1}, {9, 0}, {10, 0}};
        for (int[] row : rows) {
            SkinCarriers x = on(LINE + plainOnes(1, 9) + "drink " + (row[0] + 1) + " - 1;");
            due("trip, E " + row[0], x.trip(0, 0, 9, 0), row[1]);
            due("best, E " + row[0], x.best(0, 9, 1), row[1]);
            due("relay, E " + row[0], x.relay(9, 0), row[1]);
            due("send, E " + row[0], x.send(0, 0, 9), row[1]);
        }
    }

    /** "it drinks .. what is in the skin at most". */
    static void promise09DrinksWhatIsInTheSkinAtMost() {
        due("59", drunkBy("plain", "59"), 59);
        due("60", drunkBy("plain", "60"), 60);
        due("61", drunkBy("plain", "61"), 60);
        due("the greatest int", drunkBy("plain", GREATEST), 60);
        SkinCarriers empty = on(LINE + carrier("x", "plain", 9, 10, 9));
        due("of nothing", empty.trip(0, 0, 9, 2), 0);
        due("of nothing, what is left", empty.trip(0, 0, 9, 0), 0);
    }

    /** "(a goat: twice that)": twice, before it is held to the skin, and twice is no int of the E. */
    static void promise09AGoatDrinksTwice() {
        due("twice 0", drunkBy("goat", "0"), 0);
        due("twice 29", drunkBy("goat", "29"), 58);
        due("twice 30", drunkBy("goat", "30"), 60);
        due("twice 31", drunkBy("goat", "31"), 60);
        due("twice the greatest int", drunkBy("goat", GREATEST), 60);
        due("twice 1499700015", drunkBy("goat", "9999*9999*15"), 60);
        due("twice -1499700015", drunkBy("goat", "0 - 9999*9999*15"), 0);
        due("twice the least int", drunkBy("goat", LOWEST), 0);
    }

    /** "(a cousin drinks only if its debt is not above 0)". */
    static void promise09ACousinAtDebt0() {
        SkinCarriers x = on(LINE + carrier("x", "cousin", 9, 0, 2) + carrier("y", "plain", 9, 0, 2));
        due("debt 0", x.trip(0, 0, 9, 2), 2);
        x.owe(0, 1, 1);
        due("debt 1", x.trip(0, 0, 9, 2), 0);
        due("another one", x.trip(1, 0, 9, 2), 2);
        x.owe(1, 0, 1);
        due("debt 0 of two", x.trip(0, 0, 9, 2), 2);
        x.owe(1, 0, 2);
        due("debt -1", x.trip(0, 0, 9, 2), 2);
    }

    /** "MINUTES: all that its ways are long (a mule: half of each more, cut)". */
    static void promise09AMulesMinutesAreCut() {
        int[][] rows = {{1, 1}, {2, 3}, {3, 4}, {15, 22}, {98, 147}, {99, 148}};
        for (int[] row : rows) {
            SkinCarriers x = on(pair(row[0], 0) + carrier("x", "plain", 9, 0, 0) + carrier("m", "mule", 9, 0, 0));
            due("a plain one's", x.trip(0, 0, 1, 1), row[0]);
            due("a mule's", x.trip(1, 0, 1, 1), row[1]);
        }
        SkinCarriers two = on(line(0, 0, 15, 0) + carrier("m", "mule", 9, 0, 0));
        due("half of each, cut on each", two.trip(0, 0, 1, 1), 44);
        due("with nothing in the skin", two.trip(0, 0, 0, 1), 44);
    }

    /** "minute (since it left)", of a mule, too. */
    static void promise09MinuteSinceItLeft() {
        due("a plain one's", drunkBy("plain", "minute"), 10);
        due("a mule's", drunkBy("mule", "minute"), 15);
        SkinCarriers odd = on(line(0, 0, 15, 0) + station("d", 0, 0) + way("c", "d", 1, 0) + carrier("m", "mule", 60, 0, 0) + "drink (minute = 22) * 3 + (minute = 44) * 5;");
        due("a mule's at two STATIONS", odd.trip(0, 0, 60, 2), 8);
    }

    /** "left (in the skin), high (of the STATION), debt (..)": what they are just then. */
    static void promise09FactsJustThen() {
        due("left", drunkBy("plain", "left - 50"), 10);
        due("high", drunkBy("plain", "high - 40"), 20);
        due("debt", drunkBy("plain", "debt"), 4);
        due("thirst", drunkBy("plain", "thirst"), 7);
        SkinCarriers leaks = on(line(60, 0, 10, 2) + carrier("x", "plain", 60, 3, 0) + "drink (left = 55) * 9;");
        due("left, when it has leaked", leaks.trip(0, 0, 60, 2), 9);
        SkinCarriers owed = on(LINE + carrier("x", "plain", 60, 0, 0) + carrier("y", "plain", 60, 0, 0) + "owes y x 3;drink 0 - debt;");
        due("debt below 0", owed.trip(0, 0, 60, 2), 3);
        owed.owe(1, 0, 99);
        due("debt by hand", owed.trip(0, 0, 60, 2), 60);
    }

    /** "the STATION where it comes to": by the PATH, not by its place on it. */
    private static SkinCarriers crooked(String law) {
        SkinCarriers x = on(station("a", 0, 0) + station("b", 10, 1) + station("d", 20, 2) + station("c", 30, 3)
            + way("a", "d", 10, 0) + way("d", "b", 20, 1) + way("b", "c", 30, 2) + carrier("x", "plain", 60, 1, 0) + "drink " + law + ";");
        due("path(0, 1)", x.path(0, 1), 2);
        due("path(0, 2)", x.path(0, 2), 1);
        return x;
    }

    /** "high (of the STATION)", "minute (since it left)", "left": on a PATH that goes up and down. */
    static void promise09TheStationWhereItComesTo() {
        due("high", whatOf(crooked("high"), 50, 2), 30);
        due("high and minute", whatOf(crooked("(high = 20 and minute = 10) * 5 + (high = 10 and minute = 30) * 3"), 50, 2), 8);
        due("left", whatOf(crooked("(high = 20 and left = 49) * 5 + (high = 10 and left = 41) * 3"), 50, 2), 8);
        due("leaked", whatOf(crooked("0"), 50, 3), 1 + 3 + 5);
        due("minutes", whatOf(crooked("0"), 50, 1), 60);
    }

    /** "ints wrap". */
    static void promise09IntsWrap() {
        due("a product below", drunkBy("plain", "(9999*9999*22 < 0) * 5"), 5);
        due("a product around", drunkBy("plain", "(9999*9999*43 = 4172*1000 + 747) * 5"), 5);
        due("a sum", drunkBy("plain", "(" + GREATEST + " + 1 < 0) * 5"), 5);
        due("a difference", drunkBy("plain", "(0 < " + LOWEST + " - 1) * 5"), 5);
        due("a sum just not", drunkBy("plain", "(0 < " + GREATEST + ") * 5"), 5);
        due("a difference just not", drunkBy("plain", "(" + LOWEST + " < 0) * 5"), 5);
    }

    /** "Of not, and, or, < and = comes 1 or 0". */
    static void promise09OfTestsComes1Or0() {
        due("not 0", drunkBy("plain", "not 0"), 1);
        due("not 5", drunkBy("plain", "1 + not 5"), 1);
        due("5 and 7", drunkBy("plain", "5 and 7"), 1);
        due("5 or 7", drunkBy("plain", "5 or 7"), 1);
        due("4 < 5", drunkBy("plain", "4 < 5"), 1);
        due("5 < 5", drunkBy("plain", "1 + (5 < 5)"), 1);
        due("6 < 5", drunkBy("plain", "1 + (6 < 5)"), 1);
        due("5 = 5", drunkBy("plain", "5 = 5"), 1);
        due("5 = 6", drunkBy("plain", "1 + (5 = 6)"), 1);
        due("the least int < 1", drunkBy("plain", LOWEST + " < 1"), 1);
        due("the greatest int < -1", drunkBy("plain", "1 + (" + GREATEST + " < 0 - 1)"), 1);
    }

    /** "what is not 0 is so". */
    static void promise09WhatIsNot0IsSo() {
        due("not -1", drunkBy("plain", "1 + not (0 - 1)"), 1);
        due("not not 5", drunkBy("plain", "not not 5"), 1);
        due("-1 and 1", drunkBy("plain", "0 - 1 and 1"), 1);
        due("1 and 0", drunkBy("plain", "1 + (1 and 0)"), 1);
        due("0 and 1", drunkBy("plain", "1 + (0 and 1)"), 1);
        due("-1 or 0", drunkBy("plain", "0 - 1 or 0"), 1);
        due("0 or -1", drunkBy("plain", "0 or 0 - 1"), 1);
        due("0 or 0", drunkBy("plain", "1 + (0 or 0)"), 1);
    }

    /** "TEST { and TEST or or TEST }, from the left", SUMS and PRODUCTS, too; not of the next PART alone. */
    static void promise09FromTheLeft() {
        due("1 or 1 and 0", drunkBy("plain", "1 or 1 and 0"), 0);
        due("0 and 0 or 1", drunkBy("plain", "0 and 0 or 1"), 1);
        due("9 - 3 - 2", drunkBy("plain", "9 - 3 - 2"), 4);
        due("9 - 3 + 2", drunkBy("plain", "9 - 3 + 2"), 8);
        due("2 + 3 * 4", drunkBy("plain", "2 + 3 * 4"), 14);
        due("2 * 3 + 4", drunkBy("plain", "2 * 3 + 4"), 10);
        due("1 + 1 < 3", drunkBy("plain", "1 + 1 < 3"), 1);
        due("3 = 1 + 2 and 1", drunkBy("plain", "3 = 1 + 2 and 1"), 1);
        due("not 0 + 5", drunkBy("plain", "not 0 + 5"), 6);
        due("not 0 * 5", drunkBy("plain", "not 0 * 5"), 5);
        due("not (0 * 5)", drunkBy("plain", "not (0 * 5)"), 1);
        due("9 - (3 - 2)", drunkBy("plain", "9 - (3 - 2)"), 8);
        due("0 < 0 - 1 or 1", drunkBy("plain", "0 < 0 - 1 or 1"), 1);
    }

    /** "( E )": all of it, whatever joins it within and without. */
    static void promise09AnEWithinBrackets() {
        due("7 - (5 and 3)", drunkBy("plain", "7 - (5 and 3)"), 6);
        due("7 - (5 or 3) - 2", drunkBy("plain", "7 - (5 or 3) - 2"), 4);
        due("2 * (3 + 4)", drunkBy("plain", "2 * (3 + 4)"), 14);
        due("(3 + 4) * 2", drunkBy("plain", "(3 + 4) * 2"), 14);
        due("9 * (1 < 2) + 4", drunkBy("plain", "9 * (1 < 2) + 4"), 13);
        due("9 * (2 < 1) + 4", drunkBy("plain", "9 * (2 < 1) + 4"), 4);
        due("9 - not (0 and 1) * 5", drunkBy("plain", "9 - not (0 and 1) * 5"), 4);
        due("((2 + 3) * (4 - 1 or 0) and 1) * 6", drunkBy("plain", "((2 + 3) * (4 - 1 or 0) and 1) * 6"), 6);
        due("9 - (8 - (7 - (6 - 1)))", drunkBy("plain", "9 - (8 - (7 - (6 - 1)))"), 3);
        due("(1 and 1) + (1 or 0) * (7 = 7) - (3 < 3)", drunkBy("plain", "(1 and 1) + (1 or 0) * (7 = 7) - (3 < 3)"), 2);
        due("20 - (1 + (2 * (3 < (4 and 5))))", drunkBy("plain", "20 - (1 + (2 * (3 < (4 and 5))))"), 19);
    }

    /** The longest and the deepest E. */
    static void promise09TheLongestAndTheDeepestE() {
        due("253 PARTS", drunkBy("plain", "1" + "+1-1".repeat(125) + "+4".repeat(2)), 9);
        due("102 TESTS", drunkBy("plain", "0" + " or 0".repeat(100) + " or 1"), 1);
        due("100 PRODUCTS", drunkBy("plain", "7" + "*1".repeat(99)), 7);
        String deep = "1 and 3 < 2 + 2 * (";
        due("all that can wait", drunkBy("plain", deep.repeat(4) + "1 and 3 < 2 + 2 * 7))))"), 1);
        due("all that can wait, not so", drunkBy("plain", deep.repeat(4) + "1 and 3 < 2 + 2 * 0))))"), 0);
        due("all that can wait, and joins from there on", drunkBy("plain", deep.repeat(4) + "1 and 3 < 2 + 2 * 0)))) + 3 or 0"), 1);
        due("nots", drunkBy("plain", "4 + not not not not 5 + 2 * not not not 0"), 7);
    }

    /** "Without drink: thirst". */
    static void promise09WithoutDrinkThirst() {
        due("thirst 9", on(LINE + carrier("x", "plain", 60, 0, 9)).trip(0, 0, 60, 2), 9);
        due("thirst 0", on(LINE + carrier("x", "plain", 60, 0, 0)).trip(0, 0, 60, 2), 0);
    }

    /** A TRIP is only told: nobody goes, with more than the spring has, too. */
    static void promise09ATripChangesNothing() {
        SkinCarriers x = on(BASE + "drink 3;");
        x.send(0, 0, 20);
        due("trip of one who was SENT", x.trip(0, 0, 20, 0), 11);
        due("trip with more than the spring has", x.trip(2, 0, 30, 0), 30 - 4 - 3 - 2);
        due("count(3)", x.count(3), 15);
        due("count(4)", x.count(4), 10);
        due("count(6)", x.count(6), 1);
        due("station(1, 2)", x.station(1, 2), 1);
        due("carrier(2, 5)", carrierOf(x, 2, 5), 0);
        due("carrier(2, 6)", carrierOf(x, 2, 6), 0);
    }

    // ---- Promise 10: send

    /** The g after so many DRAWS from this SEED. */
    private static BigInteger drawn(int seed, int howMany) {
        BigInteger g = BigInteger.valueOf(seed);
        for (int i = 0; i < howMany; i++) {
            g = g.multiply(BigInteger.valueOf(1103515245)).add(BigInteger.valueOf(12345)).mod(BigInteger.valueOf(2147483648L));
        }
        return g;
    }

    private static int draw(int seed, int howMany) {
        return drawn(seed, howMany).divide(BigInteger.valueOf(65536)).mod(BigInteger.valueOf(4)).intValue();
    }

    private static int seedWhoseFirstDrawIs(int wanted) {
        for (int seed = 0; seed < 10000; seed++) {
            if (draw(seed, 1) == wanted) {
                return seed;
            }
        }
        return NONE;
    }

    /** "NONE: others": no such CARRIER or PATH, a load that does not go in; nothing is changed. */
    static void promise10Others() {
        SkinCarriers x = on(LINE + plainOnes(2, 9) + "fog 0;spring 200;");
        for (int wrong : new int[] {-1, 2, 6, LEAST, MOST}) {
            due("send(" + wrong + ", 0, 1)", x.send(wrong, 0, 1), NONE);
        }
        for (int wrong : new int[] {-1, 1, 37, LEAST, MOST}) {
            due("send(0, " + wrong + ", 1)", x.send(0, wrong, 1), NONE);
        }
        for (int wrong : new int[] {-1, 10, LEAST, MOST}) {
            due("send(0, 0, " + wrong + ")", x.send(0, 0, wrong), NONE);
        }
        due("carrier(0, 5)", carrierOf(x, 0, 5), 0);
        due("count(4)", x.count(4), 200);
        for (int i = 1; i <= 4; i++) {
            due("DRAW " + i, x.send(0, 0, 1), 1 + draw(0, i));
            x.rest();
        }
    }

    /** A load: "0 to what its skin holds". */
    static void promise10LoadsThatGoIn() {
        SkinCarriers x = on(LINE + carrier("x", "plain", 60, 0, 0) + carrier("m", "mule", 60, 0, 0) + carrier("y", "goat", 1, 0, 0) + "spring 200;");
        due("a mule's full skin and one", x.send(1, 0, 121), NONE);
        due("a mule's full skin", x.send(1, 0, 120), 120);
        due("a full skin and one", x.send(0, 0, 61), NONE);
        due("a full skin", x.send(0, 0, 60), 60);
        due("nothing", x.send(2, 0, 0), 0);
        due("count(4)", x.count(4), 20);
    }

    /** "NONE: .. it was SENT already": "Each CARRIER goes once until REST". */
    static void promise10OnceUntilRest() {
        SkinCarriers x = on(LINE + plainOnes(2, 9));
        due("send", x.send(0, 0, 0), 0);
        due("send again", x.send(0, 0, 0), NONE);
        due("send again", x.send(0, 0, 9), NONE);
        due("count(4)", x.count(4), 60);
        due("send another one", x.send(1, 0, 9), 9);
        due("count(3)", x.count(3), 9);
        x.rest();
        due("send after REST", x.send(0, 0, 9), 9);
        due("send after REST", x.send(1, 0, 9), 9);
    }

    /** "NONE: .. the spring has less": "more than it still gives can't be sent". */
    static void promise10TheSpringHasLess() {
        SkinCarriers x = on(LINE + plainOnes(4, 9) + "spring 10;");
        due("send 9 of 10", x.send(0, 0, 9), 9);
        due("count(4)", x.count(4), 1);
        due("send 2 of 1", x.send(1, 0, 2), NONE);
        due("carrier(1, 5)", carrierOf(x, 1, 5), 0);
        due("send 1 of 1", x.send(1, 0, 1), 1);
        due("count(4)", x.count(4), 0);
        due("send 1 of 0", x.send(2, 0, 1), NONE);
        due("send 0 of 0", x.send(2, 0, 0), 0);
        due("count(3)", x.count(3), 10);
        due("a dry spring", on(LINE + plainOnes(1, 9) + "spring 0;").send(0, 0, 1), NONE);
        due("a spring of as much", on(LINE + plainOnes(1, 9) + "spring 9;").send(0, 0, 9), 9);
    }

    /** "at a STATION as high as fog, or higher". */
    static void promise10AsHighAsFog() {
        String licker = carrier("x", "licker", 9, 0, 0);
        int[][] rows = {{60, 61, 2}, {60, 60, 3}, {60, 59, 3}, {0, 0, 3}, {0, 1, 2}, {99, 99, 3}, {98, 99, 2}};
        for (int[] row : rows) {
            due("high " + row[0] + ", fog " + row[1], on(line(row[0], 0, 10, 0) + licker + "fog " + row[1] + ";").send(0, 0, 2), row[2]);
        }
    }

    /** "ahead of each drinking": no fog and no fall at the spring, nor at the CITY. */
    static void promise10NoFogAndFallsAtTheEnds() {
        String ends = station("a", 99, 9) + station("b", 99, 9) + way("a", "b", 10, 0) + carrier("x", "licker", 9, 0, 0) + "fog 0;";
        SkinCarriers x = on(ends);
        due("send", x.send(0, 0, 2), 2);
        due("station(0, 2)", x.station(0, 2), 9);
        due("station(1, 2)", x.station(1, 2), 9);
        SkinCarriers one = on(station("a", 99, 9) + carrier("x", "licker", 9, 9, 9) + "fog 0;");
        due("send with one STATION", one.send(0, 0, 2), 2);
        due("station(0, 2)", one.station(0, 2), 9);
        due("count(3)", one.count(3), 2);
    }

    /** "a DRAW below 4 mouthfuls more (a licker: 1 more than that)": 0 to 3, 1 to 4. */
    static void promise10ADrawBelow4() {
        for (int drawn = 0; drawn < 4; drawn++) {
            int seed = seedWhoseFirstDrawIs(drawn);
            SkinCarriers x = on(LINE + carrier("x", "plain", 9, 0, 0) + carrier("y", "licker", 9, 0, 0) + "fog 0;");
            x.seed(seed);
            due("a plain one's DRAW", x.send(0, 0, 2), 2 + drawn);
            x.seed(seed);
            due("a licker's DRAW", x.send(1, 0, 2), 3 + drawn);
        }
    }

    /** "g becomes (g * 1103515245 + 12345) modulo 2147483648 ..; it is g / 65536, cut, modulo m". */
    static void promise10TheDraws() {
        for (int seed : new int[] {0, 1, 2, 77, 4096, 9998, 9999}) {
            SkinCarriers x = on(LINE + carrier("x", "plain", 9, 0, 0) + "fog 0;spring 200;");
            x.seed(seed);
            for (int i = 1; i <= 60; i++) {
                due("SEED " + seed + ", DRAW " + i, x.send(0, 0, 2), 2 + draw(seed, i));
                x.rest();
            }
        }
    }

    /** A DRAW is drawn where there is fog: in a full skin, and by a cousin who may not drink, too. */
    static void promise10DrawsWhereThereIsFog() {
        String two = carrier("x", "plain", 9, 0, 0) + carrier("y", "cousin", 9, 0, 0) + "owes y x 1;spring 200;";
        SkinCarriers fog = on(LINE + two + "fog 60;");
        fog.send(0, 0, 9);
        fog.send(1, 0, 0);
        fog.rest();
        fog.send(0, 0, 9);
        due("the fourth DRAW, by the cousin", fog.send(1, 0, 2), 3);
        SkinCarriers clear = on(LINE + two + "fog 61;");
        for (int i = 0; i < 3; i++) {
            clear.send(0, 0, 2);
            clear.rest();
        }
        due("no DRAW without fog", clear.send(0, 0, 2), 2);
    }

    /** "never more than the skin holds": by the fog. */
    static void promise10FogGoesIntoTheSkinAtMost() {
        int three = seedWhoseFirstDrawIs(3);
        for (int load = 3; load <= 9; load++) {
            SkinCarriers x = on(LINE + carrier("x", "plain", 9, 0, 0) + carrier("y", "licker", 9, 0, 0) + carrier("m", "mule", 5, 0, 0) + "fog 0;");
            x.seed(three);
            due("a plain one with " + load, x.send(0, 0, load), Math.min(9, load + 3));
            x.seed(three);
            due("a licker with " + load, x.send(1, 0, load), Math.min(9, load + 4));
            x.seed(three);
            due("a mule with " + load, x.send(2, 0, load), Math.min(10, load + 3));
        }
    }

    /** "of the fall there .. what it still gives; never more than the skin holds": the rest stays in the fall. */
    static void promise10FallsGoIntoTheSkinAtMost() {
        int[][] rows = {{0, 5, 0}, {3, 8, 0}, {4, 9, 0}, {5, 9, 1}, {8, 9, 4}, {9, 9, 5}};
        for (int[] row : rows) {
            SkinCarriers x = on(line(60, 5, 10, 0) + plainOnes(1, 9));
            due("send with " + row[0], x.send(0, 0, row[0]), row[1]);
            due("station(1, 2)", x.station(1, 2), row[2]);
        }
        SkinCarriers mule = on(line(60, 5, 10, 0) + carrier("m", "mule", 5, 0, 0));
        due("a mule's skin", mule.send(0, 0, 8), 10);
        due("station(1, 2)", mule.station(1, 2), 3);
    }

    /** "a DRAW ..; then of the fall there": the fog is ahead of the fall. */
    static void promise10FogAheadOfTheFall() {
        SkinCarriers x = on(line(60, 5, 10, 0) + carrier("x", "licker", 9, 0, 0) + carrier("y", "licker", 9, 0, 0) + "fog 0;");
        due("send, DRAW 0", x.send(0, 0, 7), 9);
        due("station(1, 2)", x.station(1, 2), 4);
        x.seed(seedWhoseFirstDrawIs(3));
        due("send, DRAW 3", x.send(1, 0, 7), 9);
        due("station(1, 2)", x.station(1, 2), 4);
    }

    /** "(each gives so much in all until REST)". */
    static void promise10AFallGivesSoMuchInAll() {
        SkinCarriers x = on(line(60, 5, 10, 0) + plainOnes(3, 9));
        due("the first", x.send(0, 0, 6), 9);
        due("the second", x.send(1, 0, 6), 8);
        due("the third", x.send(2, 0, 6), 6);
        x.rest();
        due("after REST", x.send(0, 0, 6), 9);
        due("station(1, 2)", x.station(1, 2), 2);
    }

    /** "of the fall there", "who drank where": on a PATH that goes up and down. */
    static void promise10TheFallThere() {
        SkinCarriers x = crooked("1");
        due("send", x.send(0, 0, 20), 20 - 1 + 2 - 1 - 3 + 1 - 1 - 5);
        int[] falls = {0, 0, 0, 3};
        for (int i = 0; i < 4; i++) {
            due("station(" + i + ", 2)", x.station(i, 2), falls[i]);
        }
        due("drank(0, 1)", x.drank(0, 1), 2);
        due("drank(1, 1)", x.drank(1, 1), 1);
    }

    /** "ahead of each drinking": what fog and fall give is in the skin for the E, and can be drunk. */
    static void promise10AheadOfEachDrinking() {
        SkinCarriers x = on(line(60, 5, 10, 0) + carrier("x", "licker", 9, 0, 0) + "fog 0;drink (left = 7) * 7;");
        due("send", x.send(0, 0, 1), 0);
        due("drank(0, 2)", x.drank(0, 2), 7);
        SkinCarriers leaks = on(line(60, 5, 10, 1) + carrier("x", "plain", 5, 9, 0));
        due("it leaks first, and again", leaks.send(0, 0, 5), 0);
        due("station(1, 2)", leaks.station(1, 2), 0);
    }

    /** Paid for what it brings with the E as price. */
    private static int paid(String price, int load) {
        SkinCarriers x = on(LINE + plainOnes(1, 9) + "price " + price + ";");
        x.send(0, 0, load);
        return carrierOf(x, 0, 6);
    }

    /** "the E of price (0 if it is below, 99 if above ..)". */
    static void promise10PricesFrom0To99() {
        due("price -1", paid("0 - 1", 9), 0);
        due("price 0", paid("0", 9), 0);
        due("price 1", paid("1", 9), 9);
        due("price 98", paid("98", 9), 882);
        due("price 99", paid("99", 9), 891);
        due("price 100", paid("100", 9), 891);
        due("the greatest int", paid(GREATEST, 9), 891);
        due("the least int", paid(LOWEST, 9), 0);
        due("a price that wraps", paid("9999*9999*22", 9), 0);
    }

    /** "for each mouthful": for none nothing. */
    static void promise10PaidForEachMouthful() {
        due("none", paid("99", 0), 0);
        due("one", paid("99", 1), 99);
    }

    /** "above and came without this one". */
    static void promise10AboveAndCameWithoutThisOne() {
        SkinCarriers x = on(LINE + plainOnes(3, 9) + "price above + came * 10;");
        x.send(2, 0, 5);
        due("carrier(2, 6)", carrierOf(x, 2, 6), 0);
        x.send(0, 0, 0);
        due("carrier(0, 6)", carrierOf(x, 0, 6), 0);
        x.send(1, 0, 2);
        due("carrier(1, 6), two came with 5", carrierOf(x, 1, 6), 50);
    }

    /** "the E of price": its facts at the deepest. */
    static void promise10TheFactsOfADeepPrice() {
        SkinCarriers x = on(LINE + plainOnes(2, 9) + "price 2 + 1 * (3 + 1 * (4 + 1 * (5 + 1 * (above + 1 * came))));");
        x.send(0, 0, 7);
        due("carrier(0, 6)", carrierOf(x, 0, 6), 14 * 7);
        x.send(1, 0, 2);
        due("carrier(1, 6)", carrierOf(x, 1, 6), (14 + 7 + 1) * 2);
    }

    /** "Without .. price: 1". */
    static void promise10WithoutPrice1() {
        SkinCarriers x = on(LINE + plainOnes(2, 9));
        x.send(0, 0, 9);
        x.send(1, 0, 7);
        due("carrier(0, 6)", carrierOf(x, 0, 6), 9);
        due("carrier(1, 6)", carrierOf(x, 1, 6), 7);
    }

    /** Noon is not for those SENT by hand. */
    static void promise10AfterNoon() {
        due("send", on(LINE + plainOnes(1, 9) + "noon 1;").send(0, 0, 9), 9);
    }

    // ---- Promise 11: rest

    /** "REST: what was above": nothing, too. */
    static void promise11WhatWasAbove() {
        SkinCarriers x = on(LINE + plainOnes(3, 9));
        due("rest() when nobody was sent", x.rest(), 0);
        x.send(0, 0, 9);
        x.send(1, 0, 8);
        due("rest()", x.rest(), 17);
        due("rest() again", x.rest(), 0);
        due("count(3)", x.count(3), 0);
    }

    /** "then the spring and the falls are full". */
    static void promise11SpringAndFallsAreFull() {
        SkinCarriers x = on(line(60, 5, 10, 0) + plainOnes(1, 9) + "spring 9;");
        x.send(0, 0, 4);
        due("station(1, 2)", x.station(1, 2), 0);
        x.rest();
        due("count(4)", x.count(4), 9);
        due("station(1, 2)", x.station(1, 2), 5);
    }

    /** "the book [is] gone". */
    static void promise11TheBookIsGone() {
        SkinCarriers x = on(LINE + carrier("x", "plain", 9, 0, 1));
        x.send(0, 0, 9);
        due("count(6)", x.count(6), 1);
        x.rest();
        due("count(6)", x.count(6), 0);
        for (int what = 0; what < 3; what++) {
            due("drank(0, " + what + ")", x.drank(0, what), NONE);
        }
    }

    /** "what is above .. gone, nobody came". */
    static void promise11NobodyCame() {
        SkinCarriers x = on(LINE + plainOnes(2, 9) + "price 1 + above + came;");
        x.send(0, 0, 9);
        x.rest();
        x.send(1, 0, 9);
        due("carrier(1, 6)", carrierOf(x, 1, 6), 9);
    }

    /** REST leaves g, what was PAID, debts, patches, MARKS, what can be undone and the TAPE. */
    static void promise11WhatRestLeaves() {
        SkinCarriers x = on(LINE + plainOnes(2, 9) + "fog 0;owes p q 3;");
        x.patch(0, true);
        x.owe(1, 0, 4);
        x.mark(1, false);
        lay(x, "fog");
        for (int i = 0; i < 3; i++) {
            x.send(0, 0, 1);
            x.rest();
        }
        due("carrier(0, 4)", carrierOf(x, 0, 4), 1);
        due("carrier(0, 6)", carrierOf(x, 0, 6), 3);
        due("owes(0, 1)", x.owes(0, 1), 3);
        due("owes(1, 0)", x.owes(1, 0), 4);
        due("count(7)", x.count(7), 2);
        due("count(8)", x.count(8), 3);
        due("the fourth DRAW", x.send(0, 0, 1), 2);
        due("mark(1, true)", x.mark(1, true), true);
    }

    // ---- Promise 12: seed

    /** "SEED (0 to 9999) .. : true; false: others". */
    static void promise12Seeds0To9999() {
        SkinCarriers x = new SkinCarriers();
        due("seed(0)", x.seed(0), true);
        due("seed(9999)", x.seed(9999), true);
        for (int wrong : new int[] {-1, 10000, LEAST, MOST}) {
            due("seed(" + wrong + ")", x.seed(wrong), false);
        }
    }

    /** "g is it": from then on; a wrong one leaves g as it is. */
    static void promise12GIsIt() {
        SkinCarriers x = on(LINE + plainOnes(1, 9) + "fog 0;");
        x.seed(9999);
        due("DRAW 1 of 9999", x.send(0, 0, 1), 1 + draw(9999, 1));
        x.rest();
        x.seed(10000);
        x.seed(-1);
        for (int i = 2; i < 9; i++) {
            due("DRAW " + i + " of 9999", x.send(0, 0, 1), 1 + draw(9999, i));
            x.rest();
        }
        x.seed(9999);
        for (int i = 1; i < 9; i++) {
            due("DRAW " + i + " of 9999 again", x.send(0, 0, 1), 1 + draw(9999, i));
            x.rest();
        }
    }

    // ---- Promise 13: drank

    /** "NONE: others". */
    static void promise13Others() {
        SkinCarriers x = on(LINE + carrier("x", "plain", 9, 0, 1));
        due("drank(0, 0) of an empty book", x.drank(0, 0), NONE);
        x.send(0, 0, 9);
        for (int wrong : new int[] {-1, 1, 59, 60, LEAST, MOST}) {
            due("drank(" + wrong + ", 0)", x.drank(wrong, 0), NONE);
        }
        for (int wrong : new int[] {-1, 3, LEAST, MOST}) {
            due("drank(0, " + wrong + ")", x.drank(0, wrong), NONE);
        }
        due("drank(0, 0)", x.drank(0, 0), 0);
        due("drank(0, 1)", x.drank(0, 1), 1);
        due("drank(0, 2)", x.drank(0, 2), 1);
    }

    /** "who drank where how much (above 0)". */
    static void promise13OnlyAbove0() {
        SkinCarriers x = on(LINE + carrier("x", "plain", 9, 0, 0) + carrier("y", "cousin", 9, 0, 3) + carrier("z", "plain", 9, 0, 3)
            + carrier("w", "plain", 9, 0, 1) + "owes y x 1;");
        x.send(0, 0, 9);
        x.send(1, 0, 9);
        x.send(2, 0, 0);
        due("count(6)", x.count(6), 0);
        x.send(3, 0, 9);
        due("count(6)", x.count(6), 1);
        due("drank(0, 0)", x.drank(0, 0), 3);
        due("drank(0, 2)", x.drank(0, 2), 1);
        SkinCarriers below = on(LINE + plainOnes(1, 9) + "drink 0 - 1;");
        below.send(0, 0, 9);
        due("count(6)", below.count(6), 0);
    }

    /** What it drank, not what it would have. */
    static void promise13WhatWasInTheSkin() {
        SkinCarriers x = on(LINE + carrier("x", "goat", 9, 0, 9));
        x.send(0, 0, 4);
        due("drank(0, 2)", x.drank(0, 2), 4);
    }

    /** "the first 60 since REST": six CARRIERS by five STATIONS, the most a day has, are 30 and all in it. */
    static void promise13TheMostADayHas() {
        StringBuilder text = new StringBuilder();
        for (int i = 0; i < 7; i++) {
            text.append(station("s" + (char) ('a' + i), 0, 0));
        }
        for (int i = 1; i < 7; i++) {
            text.append(way("s" + (char) ('a' + i - 1), "s" + (char) ('a' + i), 1, 0));
        }
        SkinCarriers x = on(text + plainOnes(6, 20) + "drink minute;spring 200;");
        for (int day = 0; day < 3; day++) {
            for (int c = 5; c >= 0; c--) {
                due("send", x.send(c, 0, 20), 5);
            }
            due("count(6)", x.count(6), 30);
            for (int i = 0; i < 30; i++) {
                due("drank(" + i + ", 0)", x.drank(i, 0), 5 - i / 5);
                due("drank(" + i + ", 1)", x.drank(i, 1), 1 + i % 5);
                due("drank(" + i + ", 2)", x.drank(i, 2), 1 + i % 5);
            }
            due("drank(30, 0)", x.drank(30, 0), NONE);
            due("rest()", x.rest(), 30);
        }
    }
}
