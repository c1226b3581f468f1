/**
 * Promises 14 to 16: a test of its own for each sentence on BEST PATH, PLAN and RELAY that names a boundary case. The
 * sentence stands above its test.
 */
public final class PlanBoundariesTest extends Checks {
    /** PATH 0 over the middle, 20 minutes; PATH 1 straight, 30 minutes. */
    private static final String TRIANGLE = station("a", 0, 0) + station("b", 0, 0) + station("c", 0, 0)
        + way("a", "b", 10, 0) + way("b", "c", 10, 0) + way("a", "c", 30, 0);
    /** PATH 0 over the middle, 40 minutes; PATH 1 straight, 30 minutes. */
    private static final String DETOUR = TRIANGLE.replace("long 10", "long 20");
    private static final String FOUR_IN_A_LINE = LINE + station("d", 0, 0) + way("c", "d", 10, 0);

    public static void main(String[] args) {
        runAll(PlanBoundariesTest.class);
    }

    private static void best(SkinCarriers x, int carrier, int load, int path, int left) {
        due("best(" + carrier + ", " + load + ", 0)", x.best(carrier, load, 0), path);
        due("best(" + carrier + ", " + load + ", 1)", x.best(carrier, load, 1), left);
    }

    /** The answers of plan(NONE), plan(0), plan(1) and so on. */
    private static void plan(SkinCarriers x, int... row) {
        for (int i = 0; i < row.length; i++) {
            due("plan(" + (i - 1) + ")", x.plan(i - 1), row[i]);
        }
        due("plan(" + (row.length - 1) + "), beyond", x.plan(row.length - 1), -2);
    }

    /** The answers of relay(load, 0), relay(load, 1) and so on; NONE beyond. */
    private static void relay(SkinCarriers x, int load, int... row) {
        for (int what = 0; what < row.length + 3; what++) {
            due("relay(" + load + ", " + what + ")", x.relay(load, what), what < row.length ? row[what] : NONE);
        }
    }

    // ---- Promise 14: best

    /** "by noon (MINUTES no more than that)": just at noon, and one minute late. */
    static void promise14MinutesNoMoreThanNoon() {
        String x = TRIANGLE + carrier("x", "plain", 20, 0, 5);
        best(on(x + "noon 31;"), 0, 20, 1, 20);
        best(on(x + "noon 30;"), 0, 20, 1, 20);
        best(on(x + "noon 29;"), 0, 20, 0, 15);
        best(on(x + "noon 20;"), 0, 20, 0, 15);
        best(on(TRIANGLE + carrier("m", "mule", 20, 0, 5) + "noon 45;"), 0, 40, 1, 40);
        best(on(TRIANGLE + carrier("m", "mule", 20, 0, 5) + "noon 44;"), 0, 40, 0, 35);
        best(on(TRIANGLE + carrier("m", "mule", 20, 0, 5) + "noon 30;"), 0, 40, 0, 35);
    }

    /** "NONE: .. none by noon". */
    static void promise14NoneByNoon() {
        best(on(TRIANGLE + carrier("x", "plain", 20, 0, 5) + "noon 19;"), 0, 20, NONE, NONE);
        best(on(TRIANGLE + carrier("m", "mule", 20, 0, 5) + "noon 29;"), 0, 20, NONE, NONE);
        best(on(TRIANGLE + carrier("x", "plain", 20, 0, 5) + "noon 1;"), 0, 0, NONE, NONE);
        best(on(station("a", 0, 0) + station("b", 0, 0) + plainOnes(1, 9)), 0, 9, NONE, NONE);
        best(on(plainOnes(1, 9)), 0, 9, NONE, NONE);
    }

    /** "of equal ones the first PATH": of none left, too. */
    static void promise14TheFirstOfEqualPaths() {
        best(on(TRIANGLE + plainOnes(1, 20)), 0, 20, 0, 20);
        best(on(TRIANGLE + carrier("x", "plain", 20, 0, 5)), 0, 0, 0, 0);
        best(on(TRIANGLE + carrier("x", "plain", 20, 20, 5)), 0, 20, 0, 0);
        best(on(DETOUR + plainOnes(1, 20) + "noon 30;"), 0, 20, 1, 20);
        best(on(DETOUR + plainOnes(1, 20) + "noon 30;"), 0, 0, 1, 0);
        SkinCarriers more = on(TRIANGLE + carrier("x", "plain", 20, 0, 1));
        best(more, 0, 1, 1, 1);
    }

    /** A PATH with nothing left is one, not none. */
    static void promise14NothingLeftIsNotNone() {
        best(on(LINE + carrier("x", "plain", 9, 0, 9)), 0, 9, 0, 0);
        best(on(LINE + plainOnes(1, 9)), 0, 0, 0, 0);
    }

    /** "NONE: others". */
    static void promise14Others() {
        SkinCarriers x = on(TRIANGLE + plainOnes(2, 9) + carrier("m", "mule", 9, 0, 0));
        for (int wrong : new int[] {-1, 3, 6, LEAST, MOST}) {
            best(x, wrong, 0, NONE, NONE);
        }
        for (int wrong : new int[] {-1, 10, LEAST, MOST}) {
            best(x, 0, wrong, NONE, NONE);
        }
        best(x, 0, 9, 0, 9);
        best(x, 2, 18, 0, 18);
        best(x, 2, 19, NONE, NONE);
        for (int wrong : new int[] {-1, 2, LEAST, MOST}) {
            due("best(0, 0, " + wrong + ")", x.best(0, 0, wrong), NONE);
        }
    }

    /** With one STATION its PATH has no MINUTES. */
    static void promise14OneStation() {
        best(on(station("a", 0, 0) + plainOnes(1, 9) + "noon 1;"), 0, 9, 0, 9);
    }

    /** By TRIPS: neither what the spring has nor who was SENT counts, and nothing changes. */
    static void promise14ByTrips() {
        SkinCarriers x = on(line(99, 9, 10, 0) + carrier("x", "licker", 9, 0, 1) + "spring 3;fog 0;");
        x.send(0, 0, 3);
        int above = x.count(3);
        best(x, 0, 9, 0, 8);
        due("count(3)", x.count(3), above);
        due("count(4)", x.count(4), 0);
        due("count(6)", x.count(6), 1);
    }

    // ---- Promise 15: plan

    /** "-2: others". */
    static void promise15Others() {
        SkinCarriers x = on(TRIANGLE + plainOnes(2, 9));
        for (int wrong : new int[] {-2, -3, 4, 5, 12, LEAST, MOST}) {
            due("plan(" + wrong + ")", x.plan(wrong), -2);
        }
        due("plan(3)", x.plan(3), 0);
        plan(new SkinCarriers(), 0);
        plan(on(TRIANGLE), 0);
    }

    /** "no more together than the spring gives in a day". */
    static void promise15NoMoreThanTheSpringGives() {
        plan(on(TRIANGLE + plainOnes(2, 9) + "spring 19;"), 18, 9, 0, 9, 0);
        plan(on(TRIANGLE + plainOnes(2, 9) + "spring 18;"), 18, 9, 0, 9, 0);
        plan(on(TRIANGLE + plainOnes(2, 9) + "spring 17;"), 17, 8, 0, 9, 0);
        plan(on(TRIANGLE + plainOnes(2, 9) + "spring 9;"), 9, 0, NONE, 9, 0);
        plan(on(TRIANGLE + plainOnes(2, 9) + "spring 1;"), 1, 0, NONE, 1, 0);
        plan(on(TRIANGLE + plainOnes(2, 9) + "spring 0;"), 0, 0, NONE, 0, NONE);
    }

    /** "no more together": who comes behind has what is left of it. */
    static void promise15WhoComesBehindHasTheRest() {
        // x has all its 9, as y would drink 4 of its own; of the 3 behind nothing would be left.
        plan(on(LINE + carrier("x", "plain", 9, 0, 0) + carrier("y", "plain", 9, 0, 4) + "spring 12;"), 9, 9, 0, 0, NONE);
        plan(on(LINE + carrier("x", "plain", 9, 0, 0) + carrier("y", "plain", 9, 0, 4) + "spring 14;"), 10, 5, 0, 9, 0);
        plan(on(LINE + carrier("x", "plain", 9, 0, 0) + carrier("y", "plain", 9, 0, 4) + carrier("z", "plain", 9, 0, 8) + "spring 17;"),
            13, 8, 0, 9, 0, 0, NONE);
    }

    /** "no more together than the spring gives": what is taken from it counts, not what is left above. */
    static void promise15WhatIsTakenFromTheSpring() {
        String two = LINE + carrier("x", "plain", 9, 0, 4) + plainOnes(1, 9);
        plan(on(two + "spring 12;"), 9, 0, NONE, 9, 0);
        plan(on(two + "spring 13;"), 9, 0, NONE, 9, 0);
        plan(on(two + "spring 14;"), 10, 5, 0, 9, 0);
        plan(on(two + "spring 17;"), 13, 8, 0, 9, 0);
        plan(on(two + "spring 18;"), 14, 9, 0, 9, 0);
        plan(on(two + "spring 19;"), 14, 9, 0, 9, 0);
    }

    /** The most: "spring 200", "skin 60", "a mule's holds twice as much", six CARRIERS. */
    static void promise15TheMostOfAll() {
        String mules = carrier("m", "mule", 60, 0, 0) + carrier("n", "mule", 60, 0, 0);
        plan(on(TRIANGLE + mules + "spring 200;"), 200, 80, 0, 120, 0);
        plan(on(TRIANGLE + plainOnes(4, 60) + "spring 200;"), 200, 20, 0, 60, 0, 60, 0, 60, 0);
        plan(on(TRIANGLE + plainOnes(6, 60) + "spring 200;"), 200, 0, NONE, 0, NONE, 20, 0, 60, 0, 60, 0, 60, 0);
        plan(on(TRIANGLE + plainOnes(6, 1) + "spring 200;"), 6, 1, 0, 1, 0, 1, 0, 1, 0, 1, 0, 1, 0);
        plan(on(TRIANGLE + carrier("m", "mule", 60, 0, 0) + "spring 200;"), 120, 120, 0);
    }

    /** "the spring gives in a day": not what it still gives today; who was SENT goes, too. */
    static void promise15AWholeDay() {
        SkinCarriers x = on(TRIANGLE + plainOnes(2, 9) + "spring 12;");
        plan(x, 12, 3, 0, 9, 0);
        x.send(0, 0, 9);
        plan(x, 12, 3, 0, 9, 0);
        x.send(1, 0, 3);
        plan(x, 12, 3, 0, 9, 0);
        due("count(4)", x.count(4), 0);
        due("count(3), PLAN changes nothing", x.count(3), 12);
    }

    /** "loads (0: not sent)", "its PATH (NONE: not sent)": who would bring nothing. */
    static void promise15WhoBringsNothingIsNotSent() {
        plan(on(LINE + carrier("x", "plain", 5, 0, 5)), 0, 0, NONE);
        plan(on(LINE + carrier("x", "plain", 6, 0, 5)), 1, 6, 0);
        plan(on(LINE + carrier("x", "plain", 9, 0, 9) + plainOnes(1, 9)), 9, 0, NONE, 9, 0);
    }

    /** "by TRIPS by noon". */
    static void promise15ByNoon() {
        plan(on(LINE + plainOnes(1, 9) + "noon 20;"), 9, 9, 0);
        plan(on(LINE + plainOnes(1, 9) + "noon 19;"), 0, 0, NONE);
        plan(on(LINE + carrier("m", "mule", 9, 0, 0) + plainOnes(1, 9) + "noon 30;spring 20;"), 20, 11, 0, 9, 0);
        plan(on(LINE + carrier("m", "mule", 9, 0, 0) + plainOnes(1, 9) + "noon 29;spring 20;"), 9, 0, NONE, 9, 0);
        plan(on(TRIANGLE + carrier("x", "plain", 9, 0, 2) + "noon 30;"), 9, 9, 1);
        plan(on(TRIANGLE + carrier("x", "plain", 9, 0, 2) + "noon 29;"), 7, 9, 0);
    }

    /** Without a PATH nobody goes; with one STATION all do. */
    static void promise15NoPathAndOneStation() {
        plan(on(station("a", 0, 0) + station("b", 0, 0) + plainOnes(2, 9)), 0, 0, NONE, 0, NONE);
        plan(on(plainOnes(1, 9)), 0, 0, NONE);
        plan(on(station("a", 0, 0) + plainOnes(2, 9) + "spring 10;noon 1;"), 10, 1, 0, 9, 0);
    }

    /** "of equal ones the least loads": no mouthful that brings nothing more. */
    static void promise15TheLeastLoads() {
        plan(on(LINE + carrier("x", "plain", 10, 0, 0) + "drink (6 < left) * 4;"), 6, 6, 0);
        plan(on(LINE + carrier("x", "plain", 11, 0, 0) + "drink (6 < left) * 4;"), 7, 11, 0);
        plan(on(LINE + carrier("x", "plain", 10, 0, 0) + "drink left;"), 0, 0, NONE);
    }

    /** "the least loads, CARRIER 0 ahead": the first one's load is the least, then the second one's. */
    static void promise15Carrier0Ahead() {
        plan(on(LINE + plainOnes(3, 9) + "spring 10;"), 10, 0, NONE, 1, 0, 9, 0);
        // 4 are above if either one has 8, and none if both have 4.
        plan(on(LINE + carrier("x", "plain", 8, 0, 4) + carrier("y", "plain", 8, 0, 4) + "spring 8;"), 4, 0, NONE, 8, 0);
        // 9 are above if x has 9 or if y has 20: the row of loads counts, not their sum.
        plan(on(station("a", 0, 0) + station("b", 0, 0) + way("a", "b", 10, 0) + carrier("x", "plain", 9, 0, 0)
            + carrier("y", "plain", 20, 11, 0) + "spring 20;"), 9, 0, NONE, 20, 0);
    }

    /** The PATH is the first one of those by which most is left of this load. */
    static void promise15TheFirstOfEqualPaths() {
        plan(on(TRIANGLE + plainOnes(1, 9)), 9, 9, 0);
        plan(on(TRIANGLE + carrier("x", "plain", 9, 0, 1)), 9, 9, 1);
        // Of a load of 1 or 2 nothing is left by either PATH.
        plan(on(TRIANGLE.replace("long 30 thorns 0", "long 30 thorns 2") + carrier("x", "plain", 9, 0, 5)), 7, 9, 1);
        plan(on(DETOUR + plainOnes(1, 9) + "noon 39;"), 9, 9, 1);
        plan(on(DETOUR + plainOnes(1, 9) + "noon 40;"), 9, 9, 0);
    }

    /** PLAN is of the MOUNTAIN told last, though more went on the one ahead. */
    static void promise15FewerThanBefore() {
        SkinCarriers x = on(TRIANGLE + plainOnes(6, 60) + "spring 200;");
        due("plan(-1)", x.plan(NONE), 200);
        for (int howMany = 5; howMany >= 1; howMany--) {
            read(x, TRIANGLE + plainOnes(howMany, 2) + "spring 200;");
            due("plan(-1) of " + howMany, x.plan(NONE), 2 * howMany);
            due("plan(0) of " + howMany, x.plan(0), 2);
        }
    }

    /** PLAN is by the debts and patches as they are now. */
    static void promise15AsThingsAreNow() {
        SkinCarriers x = on(LINE + carrier("x", "cousin", 9, 2, 3) + carrier("y", "plain", 1, 0, 0));
        plan(x, 3, 9, 0, 1, 0);
        x.owe(0, 1, 1);
        plan(x, 6, 9, 0, 1, 0);
        x.mark(0, false);
        x.patch(0, true);
        plan(x, 8, 9, 0, 1, 0);
        x.undo();
        plan(x, 6, 9, 0, 1, 0);
        x.undo();
        plan(x, 3, 9, 0, 1, 0);
        x.mark(0, true);
        plan(x, 6, 9, 0, 1, 0);
    }

    // ---- Promise 16: relay

    /** "RELAY of a load (0 to 60)". */
    static void promise16Loads0To60() {
        SkinCarriers x = on(LINE + carrier("m", "mule", 60, 0, 0));
        relay(x, 0, 0, 0, 0, 0);
        relay(x, 1, 1, 0, 0, 0);
        relay(x, 60, 60, 0, 0, 0);
        for (int wrong : new int[] {-1, 61, 120, LEAST, MOST}) {
            relay(x, wrong);
        }
    }

    /** "NONE: others": no such what; "(NONE: beyond)". */
    static void promise16Others() {
        SkinCarriers x = on(TRIANGLE + carrier("x", "plain", 9, 0, 1));
        for (int wrong : new int[] {-1, -2, 3, 4, 8, LEAST, MOST}) {
            due("relay(9, " + wrong + ")", x.relay(9, wrong), NONE);
        }
        relay(x, 9, 9, 1, 0);
    }

    /** "(4 CARRIERS told at most)", "NONE: .. more than 4 CARRIERS". */
    static void promise16FourCarriersAtMost() {
        relay(on(LINE + plainOnes(4, 9)), 9, 9, 0, 0, 0);
        relay(on(LINE + plainOnes(3, 8) + carrier("x", "plain", 9, 0, 0)), 9, 9, 0, 3, 3);
        relay(on(LINE + plainOnes(5, 9)), 9);
        relay(on(LINE + plainOnes(6, 9)), 0);
    }

    /** "NONE: .. nobody". */
    static void promise16Nobody() {
        relay(on(LINE), 9);
        relay(on(LINE), 0);
        relay(new SkinCarriers(), 0);
    }

    /** "NONE: .. none by noon": MINUTES just at noon are by noon; without a PATH there is none. */
    static void promise16NoneByNoon() {
        relay(on(LINE + plainOnes(1, 9) + "noon 20;"), 9, 9, 0, 0, 0);
        relay(on(LINE + plainOnes(1, 9) + "noon 19;"), 9);
        relay(on(LINE + carrier("m", "mule", 9, 0, 0) + "noon 30;"), 9, 9, 0, 0, 0);
        relay(on(LINE + carrier("m", "mule", 9, 0, 0) + "noon 29;"), 9);
        relay(on(station("a", 0, 0) + station("b", 0, 0) + plainOnes(1, 9)), 9);
    }

    /** "NONE: .. one STATION". */
    static void promise16OneStation() {
        relay(on(station("a", 0, 0) + plainOnes(1, 9)), 9);
        relay(on(plainOnes(1, 9)), 9);
        relay(on(station("a", 0, 0) + station("b", 0, 0) + way("a", "b", 1, 0) + plainOnes(1, 9)), 9, 9, 0, 0);
    }

    /** "the one of the way ahead, or one who has not had it yet": nobody has it again. */
    static void promise16NobodyHasItAgain() {
        String text = station("a", 0, 0) + station("b", 0, 0) + station("c", 0, 0) + station("d", 0, 0)
            + way("a", "b", 10, 0) + way("b", "c", 10, 9) + way("c", "d", 10, 0);
        // Plain, goat, plain would leave 18.
        relay(on(text + carrier("p", "plain", 20, 0, 0) + carrier("g", "goat", 20, 2, 0)), 20, 16, 0, 0, 1, 1);
        relay(on(text + carrier("g", "goat", 20, 2, 0) + carrier("p", "plain", 20, 0, 0)), 20, 16, 0, 0, 0, 1);
        relay(on(text + carrier("p", "plain", 20, 0, 0) + carrier("g", "goat", 20, 2, 0) + carrier("q", "plain", 20, 0, 0)), 20, 18, 0, 0, 1, 2);
    }

    /** "who has it on the i-th way": by the PATH's ways, not by the numbers of its STATIONS. */
    static void promise16OnTheIthWay() {
        String text = station("a", 0, 0) + station("b", 0, 0) + station("c", 0, 0) + station("d", 0, 0) + station("e", 0, 0)
            + way("a", "d", 10, 0) + way("d", "b", 10, 9) + way("b", "c", 10, 9) + way("c", "e", 10, 0);
        SkinCarriers x = on(text + carrier("p", "plain", 20, 0, 0) + carrier("g", "goat", 20, 1, 0) + carrier("q", "plain", 20, 0, 0));
        due("path(0, 1)", x.path(0, 1), 3);
        relay(x, 20, 18, 0, 0, 1, 1, 2);
    }

    /** "(what does not go into that one's skin is lost ..)": at a STATION. */
    static void promise16LostWhenHandedOn() {
        String x = LINE + carrier("x", "plain", 30, 3, 0);
        relay(on(x + carrier("y", "plain", 28, 0, 0)), 30, 28, 0, 1, 1);
        relay(on(x + carrier("y", "plain", 27, 0, 0)), 30, 27, 0, 0, 1);
        relay(on(x + carrier("y", "plain", 26, 0, 0)), 30, 26, 0, 0, 1);
        relay(on(x + carrier("y", "plain", 25, 0, 0)), 30, 25, 0, 0, 1);
        relay(on(x + carrier("y", "plain", 24, 0, 0)), 30, 24, 0, 0, 0);
        relay(on(x + carrier("m", "mule", 13, 0, 0)), 30, 26, 0, 0, 1);
    }

    /** "(what does not go into that one's skin is lost ..)": at the spring, too. */
    static void promise16LostAtTheSpring() {
        relay(on(LINE + plainOnes(1, 30)), 30, 30, 0, 0, 0);
        relay(on(LINE + plainOnes(1, 30)), 31, 30, 0, 0, 0);
        relay(on(LINE + plainOnes(1, 30)), 60, 30, 0, 0, 0);
        relay(on(LINE + carrier("m", "mule", 29, 0, 0)), 60, 58, 0, 0, 0);
    }

    /** "(..; the one who came drinks first)": and the other one not at all there. */
    static void promise16TheOneWhoCameDrinksFirst() {
        relay(on(LINE + carrier("x", "plain", 30, 5, 5) + carrier("y", "plain", 22, 0, 9)), 30, 20, 0, 0, 1);
        relay(on(LINE + carrier("x", "plain", 30, 5, 2) + carrier("y", "plain", 22, 0, 9)), 30, 22, 0, 0, 1);
    }

    /** "MINUTES of all ways together": a mule's are longer on its own ways alone. */
    static void promise16MinutesOfAllWays() {
        String two = LINE + carrier("m", "mule", 20, 0, 0) + carrier("p", "plain", 20, 5, 0);
        relay(on(two + "noon 30;"), 20, 20, 0, 0, 0);
        relay(on(two + "noon 29;"), 20, 15, 0, 0, 1);
        relay(on(two + "noon 25;"), 20, 15, 0, 0, 1);
        relay(on(two + "noon 24;"), 20, 10, 0, 1, 1);
        relay(on(two + "noon 20;"), 20, 10, 0, 1, 1);
        relay(on(two + "noon 19;"), 20);
    }

    /** "MINUTES of all ways together, also for the E". */
    static void promise16MinutesAlsoForTheE() {
        relay(on(FOUR_IN_A_LINE + plainOnes(2, 60) + "drink minute;"), 60, 30, 0, 0, 0, 0);
        relay(on(FOUR_IN_A_LINE + plainOnes(3, 60) + "drink (minute = 20) * 7 + (minute = 10) * 5;"), 60, 48, 0, 0, 0, 0);
        relay(on(FOUR_IN_A_LINE + carrier("m", "mule", 30, 0, 0) + "drink minute;"), 60, 15, 0, 0, 0, 0);
    }

    /** "as on TRIPS": the facts of the STATION where it comes to, and of the one who came. */
    static void promise16TheFactsOfTheOneWhoCame() {
        relay(on(LINE + plainOnes(1, 60) + "drink high - 40;"), 60, 40, 0, 0, 0);
        relay(on(LINE + plainOnes(1, 60) + "drink (left = 60) * 7;"), 60, 53, 0, 0, 0);
        relay(on(LINE + carrier("x", "plain", 60, 0, 9) + carrier("y", "plain", 60, 0, 4)), 60, 56, 0, 1, 0);
        relay(on(LINE + plainOnes(2, 60) + "owes p q 3;drink debt + 3;"), 60, 60, 0, 1, 0);
        relay(on(LINE + carrier("g", "goat", 60, 0, 2) + carrier("y", "plain", 60, 0, 3)), 60, 57, 0, 1, 0);
        relay(on(LINE + carrier("x", "plain", 60, 0, 2) + carrier("k", "cousin", 60, 0, 9) + "owes k x 1;"), 60, 60, 0, 1, 0);
    }

    /** "By noon, the most left". */
    static void promise16ByNoonTheMostLeft() {
        String x = TRIANGLE + carrier("x", "plain", 20, 0, 5);
        relay(on(x + "noon 30;"), 20, 20, 1, 0);
        relay(on(x + "noon 29;"), 20, 15, 0, 0, 0);
    }

    /** "of equal ones the first PATH, then the first row of CARRIERS, way by way". */
    static void promise16TheFirstOfEqualOnes() {
        relay(on(TRIANGLE + plainOnes(2, 9)), 9, 9, 0, 0, 0);
        relay(on(TRIANGLE + plainOnes(2, 9)), 0, 0, 0, 0, 0);
        relay(on(DETOUR + plainOnes(2, 9) + "noon 39;"), 9, 9, 1, 0);
        relay(on(LINE + carrier("x", "plain", 9, 1, 0) + plainOnes(2, 9)), 9, 9, 0, 1, 1);
        // PATH 0 is ahead of PATH 1, though a lower CARRIER has it on that one.
        relay(on(TRIANGLE + carrier("x", "plain", 9, 0, 1) + plainOnes(1, 9)), 9, 9, 0, 1, 0);
    }

    /** "as on TRIPS": no fog, no falls, and neither the spring nor who was SENT counts; nothing changes. */
    static void promise16AsOnTrips() {
        SkinCarriers x = on(line(99, 9, 10, 0) + carrier("x", "licker", 9, 0, 1) + "fog 0;spring 0;");
        x.send(0, 0, 0);
        int above = x.count(3);
        int fall = x.station(1, 2);
        relay(x, 9, 8, 0, 0, 0);
        due("count(3)", x.count(3), above);
        due("count(6)", x.count(6), 1);
        due("station(1, 2)", x.station(1, 2), fall);
    }

    /** RELAY goes by the PATHS of the MOUNTAIN told last, though there were more on the one ahead. */
    static void promise16FewerPathsThanBefore() {
        SkinCarriers x = on(TRIANGLE + carrier("x", "plain", 20, 0, 5));
        relay(x, 20, 20, 1, 0);
        best(x, 0, 20, 1, 20);
        read(x, LINE + carrier("x", "plain", 20, 0, 5));
        relay(x, 20, 15, 0, 0, 0);
        best(x, 0, 20, 0, 15);
    }

    /** RELAY is of each load anew, and by the debts and patches as they are now. */
    static void promise16AsThingsAreNow() {
        SkinCarriers x = on(LINE + carrier("x", "cousin", 9, 2, 3) + carrier("y", "plain", 1, 0, 0));
        relay(x, 9, 2, 0, 0, 0);
        relay(x, 2, 1, 0, 1, 1);
        relay(x, 8, 1, 0, 0, 0);
        relay(x, 0, 0, 0, 0, 0);
        relay(x, 9, 2, 0, 0, 0);
        x.owe(0, 1, 1);
        relay(x, 9, 5, 0, 0, 0);
        x.mark(0, false);
        x.patch(0, true);
        relay(x, 9, 7, 0, 0, 0);
        x.undo();
        relay(x, 9, 5, 0, 0, 0);
        x.undo();
        relay(x, 9, 2, 0, 0, 0);
        x.mark(0, true);
        relay(x, 9, 5, 0, 0, 0);
    }
}
