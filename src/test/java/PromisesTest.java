/** For each promise of DOC.md: ordinary calls, the edges it names, and wrong inputs, with answers worked out by hand. */
public final class PromisesTest extends Checks {
    public static void main(String[] args) {
        runAll(PromisesTest.class);
    }

    static void promise01NewObject() {
        SkinCarriers x = new SkinCarriers();
        int[] counts = {0, 0, 0, 0, 60, 360, 0, 0, 0};
        for (int what = 0; what < counts.length; what++) {
            due("count(" + what + ")", x.count(what), counts[what]);
        }
        due("paths()", x.paths(), 0);
        due("station(0, 0)", x.station(0, 0), -1);
        due("carrier(0, 0)", carrierOf(x, 0, 0), THROWN);
        due("debt(0)", debtOf(x, 0), THROWN);
        due("plan(-1)", x.plan(-1), 0);
        due("plan(0)", x.plan(0), -2);
        due("relay(0, 0)", x.relay(0, 0), -1);
        due("settled()", x.settled(), 0);
        due("missed(0, 0)", x.missed(0, 0), 1);
        due("missed(0, 1)", x.missed(0, 1), 0);
        due("send(0, 0, 0)", x.send(0, 0, 0), -1);
        due("undo()", x.undo(), false);
        due("mark(3, true)", x.mark(3, true), false);
        due("NONE", SkinCarriers.NONE, -1);
    }

    static void promise02Feed() {
        SkinCarriers x = new SkinCarriers();
        due("feed of zeros", x.feed(0, 0, 0), 0);
        due("feed of a blank and a line", x.feed(0x200AL, 0, 0), 2);
        due("feed of signs around those allowed", x.feed(0x1F7F090B0D7E8020L, -1L, Long.MIN_VALUE), 4);
        due("feed of one in each", x.feed(0x6100000000000000L, 0x61L, 0x610000L), 7);
        SkinCarriers order = new SkinCarriers();
        order.feed(0x666F672035203BL, 0, 0);
        due("feed, the highest byte first", order.mountain(), 0);
        SkinCarriers full = new SkinCarriers();
        for (int i = 1; i <= 45; i++) {
            due("feed " + i, full.feed(0x2020202020202020L, 0x2020202020202020L, 0x2020202020202020L), Math.min(1000, 24 * i));
        }
        due("count(8)", full.count(8), 1000);
        due("mountain()", full.mountain(), 0);
        due("count(8)", full.count(8), 0);
        SkinCarriers end = new SkinCarriers();
        lay(end, " ".repeat(998) + "fog 1 ;");
        due("mountain() of what is beyond 1,000", end.mountain(), 1 + 16 * 998);
    }

    static void promise03Mountain() {
        SkinCarriers x = on(BASE);
        due("count(0)", x.count(0), 3);
        due("count(1)", x.count(1), 3);
        due("count(2)", x.count(2), 3);
        x.patch(0, true);
        x.mark(1, false);
        x.send(0, 0, 20);
        due("mountain() with a fault", read(x, "fog 100"), 4 + 16 * 4);
        due("count(3) stays", x.count(3), 16);
        due("count(7) stays", x.count(7), 1);
        due("carrier(0, 4) stays", carrierOf(x, 0, 4), 1);
        due("mark(1, true) stays", x.mark(1, true), true);
        due("count(8)", x.count(8), 0);
        x.seed(77);
        x.send(0, 0, 20);
        due("mountain() again", read(x, BASE), 0);
        due("count(3)", x.count(3), 0);
        due("count(4)", x.count(4), 30);
        due("count(7)", x.count(7), 0);
        due("carrier(0, 4)", carrierOf(x, 0, 4), 0);
        due("carrier(0, 5)", carrierOf(x, 0, 5), 0);
        due("carrier(0, 6)", carrierOf(x, 0, 6), 0);
        due("mark(1, true)", x.mark(1, true), false);
        due("send with SEED 0", x.send(2, 0, 10), 10 - 4 + 5 - 4 - 2);
        due("mountain() of nothing", read(x, ""), 0);
        due("count(0)", x.count(0), 0);
        due("count(4)", x.count(4), 60);
        due("a text without blanks", read(x, "station a high1fall2;station b high3fall4;way a b long5thorns6;"), 0);
        due("way(0, 1, 0)", x.way(0, 1, 0), 5);
        due("lines between", read(x, "\n\nnoon\n7\n;\n"), 0);
        due("count(5)", x.count(5), 7);
        due("names that are facts", read(x, "station left high 1 fall 1;carrier came goat skin 1 leak 1 thirst 1;station abcdefgh high 1 fall 0;"), 0);
        due("leading noughts", read(x, "noon 0007;"), 0);
        due("count(5)", x.count(5), 7);
    }

    static void promise03FaultsOfTokens() {
        fault(1, "^well");
        fault(1, "^?");
        fault(1, "^;");
        fault(1, "fog 1 ;^;");
        fault(1, "^Fog 1 ;");
        fault(1, "fog ^12345 ;");
        fault(1, "fog^");
        fault(1, "fog 1^");
        fault(1, "fog 1   ^");
        fault(1, "fog 1 ^fog");
        fault(1, "fog ^;");
        fault(1, "station ^abcdefghi");
        fault(1, "station ^1");
        fault(1, "station ^noon");
        fault(1, "station ^licker");
        fault(1, "station a ^fall");
        fault(1, "station a high ^b");
        fault(1, "station a high 1 ^;");
        fault(1, "station a high 1 fall 1 ^station");
        fault(1, "carrier a ^ox");
        fault(1, "carrier a goat ^leak");
        fault(1, "way ^way");
    }

    static void promise03FaultsOfNames() {
        String told = "station p high 1 fall 1;station q high 1 fall 1;carrier c plain skin 9 leak 1 thirst 1;carrier d goat skin 9 leak 1 thirst 1;";
        fault(2, "way ^p");
        fault(2, told + "way ^z");
        fault(2, told + "way ^c");
        fault(2, told + "way p ^c");
        fault(1, told + "way p ^5");
        fault(1, told + "way p ^high");
        fault(2, told + "owes ^p");
        fault(2, told + "owes c ^q");
        fault(2, told + "station r high 1 fall 1; way p ^s");
        fault(3, told + "station ^p");
        fault(3, told + "station ^d");
        fault(3, told + "carrier ^p");
        fault(3, told + "carrier ^c");
        fault(3, told + "way p ^p");
        fault(3, told + "way p q long 1 thorns 1;way p ^q");
        fault(3, told + "way p q long 1 thorns 1;way q ^p");
        fault(3, told + "owes c ^c");
        fault(3, told + "owes c d 1;owes c ^d");
        due("owes the other way round", read(new SkinCarriers(), told + "owes c d 1;owes d c 2;"), 0);
        fault(3, "drink 1;^drink");
        fault(3, "price 1;^price");
        fault(3, "fog 1;^fog");
        fault(3, "spring 1;^spring");
        fault(3, "noon 1;^noon");
    }

    static void promise03FaultsOfNumbers() {
        fault(4, "fog ^100;");
        fault(4, "spring ^201;");
        fault(4, "noon ^0;");
        fault(4, "noon ^1000;");
        fault(4, "station a high ^100");
        fault(4, "station a high 99 fall ^10");
        String two = "station a high 99 fall 9;station b high 0 fall 0;";
        fault(4, two + "way a b long ^0");
        fault(4, two + "way a b long ^100");
        fault(4, two + "way a b long 99 thorns ^10");
        fault(4, "carrier a goat skin ^0");
        fault(4, "carrier a goat skin ^61");
        fault(4, "carrier a goat skin 60 leak ^21");
        fault(4, "carrier a goat skin 60 leak 20 thirst ^10");
        String pair = "carrier a goat skin 60 leak 20 thirst 9;carrier b mule skin 1 leak 0 thirst 0;";
        fault(4, pair + "owes a b ^0");
        fault(4, pair + "owes a b ^100");
        due("all at their ends", read(new SkinCarriers(), two + "way a b long 99 thorns 9;" + pair.replace(" a ", " c ").replace(" b ", " d ") + "owes c d 99;owes d c 1;"), 0);
        due("least ones", read(new SkinCarriers(), "fog 0;spring 0;noon 1;"), 0);
        due("most ones", read(new SkinCarriers(), "fog 99;spring 200;noon 999;"), 0);
    }

    static void promise03FaultsOfTooMany() {
        StringBuilder stations = new StringBuilder();
        for (int i = 0; i < 7; i++) {
            stations.append("station s").append((char) ('a' + i)).append(" high 1 fall 1;");
        }
        due("seven stations", read(new SkinCarriers(), stations.toString()), 0);
        fault(5, stations + "^station");
        StringBuilder ways = new StringBuilder(stations);
        int told = 0;
        for (int a = 0; a < 7; a++) {
            for (int b = a + 1; b < 7 && told < 12; b++) {
                ways.append("way s").append((char) ('a' + a)).append(" s").append((char) ('a' + b)).append(" long 1 thorns 1;");
                told++;
            }
        }
        due("twelve ways", read(new SkinCarriers(), ways.toString()), 0);
        fault(5, ways + "^way");
        StringBuilder carriers = new StringBuilder();
        for (int i = 0; i < 6; i++) {
            carriers.append("carrier c").append((char) ('a' + i)).append(" goat skin 1 leak 1 thirst 1;");
        }
        due("six carriers", read(new SkinCarriers(), carriers.toString()), 0);
        fault(5, carriers + "^carrier");
    }

    static void promise03FaultsOfLaws() {
        fault(1, "drink ^above");
        fault(1, "price ^left");
        fault(1, "drink ^;");
        fault(1, "drink ^)");
        fault(1, "drink left ^)");
        fault(1, "drink (left^;");
        fault(1, "drink left ^left");
        fault(1, "drink left ^not 1");
        fault(1, "drink left ^(1)");
        fault(1, "drink left + ^;");
        fault(1, "drink ^- 1");
        fault(1, "drink 1 < 2 ^< 3");
        fault(1, "drink 1 = 2 + 3 * 4 ^= 3");
        fault(1, "drink 1 < 2 ^= 3");
        fault(1, "drink (1 < 2 ^= 3)");
        fault(1, "drink not ^and");
        fault(1, "drink 12 and ^or");
        fault(1, "drink ^12345");
        fault(1, "drink ^skin");
        fault(5, "price not not not not not ^1");
        fault(5, "price not not not not not ^not");
        fault(5, "price (((((^(");
        fault(5, "price (((((^came");
        fault(1, "price (((((^)");
        fault(1, "price (((((^left");
        fault(5, "drink not (not (not ^left");
        due("a PART within four", read(new SkinCarriers(), "drink not (not (left)) + not not not not 1;"), 0);
        due("TESTS joined", read(new SkinCarriers(), "drink 1 < 2 and 3 = 4 or (1 < 2) < (2 = 3);"), 0);
    }

    static void promise04Station() {
        SkinCarriers x = on(BASE);
        due("station(1, 0)", x.station(1, 0), 40);
        due("station(1, 1)", x.station(1, 1), 5);
        due("station(1, 2)", x.station(1, 2), 5);
        due("station(2, 0)", x.station(2, 0), 90);
        x.send(0, 0, 20);
        due("station(1, 1)", x.station(1, 1), 5);
        due("station(1, 2)", x.station(1, 2), 1);
        due("station(1, 3)", x.station(1, 3), -1);
        due("station(1, -1)", x.station(1, -1), -1);
        due("station(3, 0)", x.station(3, 0), -1);
        due("station(-1, 0)", x.station(-1, 0), -1);
        due("station(min, 0)", x.station(Integer.MIN_VALUE, 0), -1);
        due("station(max, 2)", x.station(Integer.MAX_VALUE, 2), -1);
    }

    static void promise05Way() {
        SkinCarriers x = on(BASE + "station top high 1 fall 1;");
        due("way(0, 1, 0)", x.way(0, 1, 0), 30);
        due("way(1, 0, 0)", x.way(1, 0, 0), 30);
        due("way(2, 0, 1)", x.way(2, 0, 1), 2);
        due("way(1, 2, 1)", x.way(1, 2, 1), 0);
        due("way(1, 1, 0)", x.way(1, 1, 0), -1);
        due("way(1, 3, 0)", x.way(1, 3, 0), -1);
        due("way(0, 4, 0)", x.way(0, 4, 0), -1);
        due("way(-1, 0, 0)", x.way(-1, 0, 0), -1);
        due("way(0, -1, 0)", x.way(0, -1, 0), -1);
        due("way(0, max, 0)", x.way(0, Integer.MAX_VALUE, 0), -1);
        due("way(0, 1, 2)", x.way(0, 1, 2), -1);
        due("way(0, 1, -1)", x.way(0, 1, -1), -1);
    }

    static void promise06Carrier() {
        SkinCarriers x = on(BASE);
        int[] mol = {2, 30, 1, 4, 0, 0, 0};
        for (int what = 0; what < mol.length; what++) {
            due("carrier(2, " + what + ")", carrierOf(x, 2, what), mol[what]);
        }
        due("carrier(0, 1)", carrierOf(x, 0, 1), 20);
        x.patch(2, true);
        due("carrier(2, 4)", carrierOf(x, 2, 4), 1);
        x.send(0, 0, 20);
        due("carrier(0, 5)", carrierOf(x, 0, 5), 1);
        due("carrier(0, 6)", carrierOf(x, 0, 6), 15);
        due("carrier(1, 5)", carrierOf(x, 1, 5), 0);
        due("carrier(0, 7)", carrierOf(x, 0, 7), THROWN);
        due("carrier(0, -1)", carrierOf(x, 0, -1), THROWN);
        due("carrier(3, 0)", carrierOf(x, 3, 0), THROWN);
        due("carrier(-1, 0)", carrierOf(x, -1, 0), THROWN);
        SkinCarriers kinds = on("carrier a plain skin 1 leak 0 thirst 0;carrier b goat skin 2 leak 0 thirst 0;carrier c mule skin 3 leak 0 thirst 0;"
            + "carrier d cousin skin 4 leak 0 thirst 0;carrier e patched skin 5 leak 0 thirst 0;carrier f licker skin 6 leak 0 thirst 0;");
        for (int kind = 0; kind < 6; kind++) {
            due("carrier(" + kind + ", 0)", carrierOf(kinds, kind, 0), kind);
        }
        due("carrier(4, 4), patched but not by hand", carrierOf(kinds, 4, 4), 0);
    }

    static void promise07Paths() {
        due("paths()", on(BASE).paths(), 2);
        due("paths() without a way", on("station a high 1 fall 1;station b high 1 fall 1;").paths(), 0);
        due("paths() with one station", on("station a high 1 fall 1;").paths(), 1);
        due("paths() with none", on("fog 1;").paths(), 0);
        due("paths() on a line", on(LINE).paths(), 1);
        due("paths() of the richest mountain", on(richest()).paths(), 37);
    }

    static void promise08Path() {
        SkinCarriers x = on(BASE);
        int[][] rows = {{0, 1, 2, -1}, {0, 2, -1, -1}, {-1, -1, -1, -1}};
        for (int p = 0; p < 3; p++) {
            for (int i = 0; i < 4; i++) {
                due("path(" + p + ", " + i + ")", x.path(p, i), rows[p][i]);
            }
        }
        due("path(0, -1)", x.path(0, -1), -1);
        due("path(-1, 0)", x.path(-1, 0), -1);
        due("path(0, max)", x.path(0, Integer.MAX_VALUE), -1);
        SkinCarriers one = on("station a high 1 fall 1;");
        due("path(0, 0) with one station", one.path(0, 0), 0);
        due("path(0, 1) with one station", one.path(0, 1), -1);
        SkinCarriers y = on("station a high 1 fall 1;station b high 1 fall 1;station c high 1 fall 1;station d high 1 fall 1;"
            + "way c d long 1 thorns 0;way a c long 1 thorns 0;way b a long 1 thorns 0;way c b long 1 thorns 0;way d b long 1 thorns 0;");
        int[][] four = {{0, 1, 2, 3}, {0, 1, 3, -1}, {0, 2, 1, 3}, {0, 2, 3, -1}};
        due("paths()", y.paths(), 4);
        for (int p = 0; p < 4; p++) {
            for (int i = 0; i < 4; i++) {
                due("path(" + p + ", " + i + ")", y.path(p, i), four[p][i]);
            }
        }
    }

    static void promise09Trip() {
        SkinCarriers x = on(BASE);
        int[][] rows = {{0, 0, 20, 11, 50, 3, 6}, {0, 1, 20, 9, 99, 0, 11}, {1, 0, 10, 0, 50, 4, 6}, {2, 0, 30, 20, 75, 4, 6},
            {2, 1, 30, 19, 148, 0, 11}, {0, 0, 5, 0, 50, 1, 4}, {0, 0, 0, 0, 50, 0, 0}, {1, 1, 10, 0, 99, 0, 10}};
        for (int[] row : rows) {
            for (int what = 0; what < 4; what++) {
                due("trip(" + row[0] + ", " + row[1] + ", " + row[2] + ", " + what + ")", x.trip(row[0], row[1], row[2], what), row[3 + what]);
            }
        }
        due("trip(0, 0, 21, 0)", x.trip(0, 0, 21, 0), -1);
        due("trip(2, 0, 31, 0)", x.trip(2, 0, 31, 0), -1);
        due("trip(0, 0, -1, 0)", x.trip(0, 0, -1, 0), -1);
        due("trip(0, 2, 1, 0)", x.trip(0, 2, 1, 0), -1);
        due("trip(0, -1, 1, 0)", x.trip(0, -1, 1, 0), -1);
        due("trip(3, 0, 1, 0)", x.trip(3, 0, 1, 0), -1);
        due("trip(-1, 0, 1, 0)", x.trip(-1, 0, 1, 0), -1);
        due("trip(0, 0, 1, 4)", x.trip(0, 0, 1, 4), -1);
        due("trip(0, 0, 1, -1)", x.trip(0, 0, 1, -1), -1);
        due("count(3)", x.count(3), 0);
        SkinCarriers one = on("station a high 0 fall 9;carrier c plain skin 5 leak 9 thirst 9;");
        due("trip with one station", one.trip(0, 0, 5, 0), 5);
        due("trip with one station, minutes", one.trip(0, 0, 5, 1), 0);
        SkinCarriers odd = on("station a high 0 fall 0;station b high 0 fall 0;way a b long 15 thorns 0;carrier m mule skin 20 leak 3 thirst 0;carrier p patched skin 20 leak 3 thirst 0;");
        due("a mule's minutes are cut", odd.trip(0, 0, 40, 1), 22);
        due("a leak is cut", odd.trip(0, 0, 40, 3), 4);
        due("a patched one's leak", odd.trip(1, 0, 20, 3), 2);
        odd.patch(1, true);
        due("patched twice is half once", odd.trip(1, 0, 20, 3), 2);
    }

    private static int drunkBy(String kind, String drink) {
        return on(LINE + "carrier x " + kind + " skin 60 leak 0 thirst 7;carrier y plain skin 9 leak 0 thirst 0;owes x y 4;drink " + drink + ";").trip(0, 0, 60, 2);
    }

    static void promise09TripByLaw() {
        due("thirst", drunkBy("plain", "thirst"), 7);
        due("left", drunkBy("plain", "left - 50"), 10);
        due("high", drunkBy("plain", "high - 40"), 20);
        due("minute", drunkBy("plain", "minute"), 10);
        due("minute of a mule", drunkBy("mule", "minute"), 15);
        due("debt", drunkBy("plain", "debt"), 4);
        due("a goat", drunkBy("goat", "thirst"), 14);
        due("a cousin who owes", drunkBy("cousin", "thirst"), 0);
        due("below 0", drunkBy("plain", "0 - 5"), 0);
        due("above left", drunkBy("plain", "9999"), 60);
        due("not binds closest", drunkBy("plain", "not 0 + 5"), 6);
        due("not of what is so", drunkBy("plain", "5 - not 7"), 5);
        due("products ahead of sums", drunkBy("plain", "2 + 3 * 4"), 14);
        due("from the left", drunkBy("plain", "20 - 5 - 3"), 12);
        due("brackets", drunkBy("plain", "20 - (5 - 3)"), 18);
        due("less", drunkBy("plain", "(1 < 2) * 10 + (2 < 2)"), 10);
        due("equal", drunkBy("plain", "(1 = 2) * 10 + (2 = 1 + 1)"), 1);
        due("and, or from the left", drunkBy("plain", "1 or 1 and 0"), 0);
        due("and, or from the left", drunkBy("plain", "0 and 0 or 7"), 1);
        due("and of what is not 0", drunkBy("plain", "5 and 0 - 3"), 1);
        due("ints wrap", drunkBy("plain", "9999 * 9999 * 22"), 0);
        due("ints wrap", drunkBy("plain", "(9999 * 9999 * 22 < 0) * 8"), 8);
        due("a goat's twice does not wrap", drunkBy("goat", "9999 * 9999 * 15"), 60);
        due("a goat's twice does not wrap", drunkBy("goat", "0 - 9999 * 9999 * 15"), 0);
        SkinCarriers x = on(LINE + "carrier x cousin skin 9 leak 0 thirst 2;carrier y plain skin 9 leak 0 thirst 0;owes y x 4;");
        due("a cousin who is owed", x.trip(0, 0, 9, 2), 2);
        x.owe(0, 1, 4);
        due("a cousin at 0", x.trip(0, 0, 9, 2), 2);
        x.owe(0, 1, 5);
        due("a cousin at 1", x.trip(0, 0, 9, 2), 0);
    }

    static void promise10Send() {
        SkinCarriers x = on(BASE);
        due("send(0, 0, 21)", x.send(0, 0, 21), -1);
        due("send(0, 2, 1)", x.send(0, 2, 1), -1);
        due("send(0, -1, 1)", x.send(0, -1, 1), -1);
        due("send(3, 0, 1)", x.send(3, 0, 1), -1);
        due("send(-1, 0, 1)", x.send(-1, 0, 1), -1);
        due("send(0, 0, -1)", x.send(0, 0, -1), -1);
        due("carrier(0, 5)", carrierOf(x, 0, 5), 0);
        due("send(0, 0, 20)", x.send(0, 0, 20), 15);
        due("count(3)", x.count(3), 15);
        due("count(4)", x.count(4), 10);
        due("station(1, 2)", x.station(1, 2), 1);
        due("send(0, 0, 5) again", x.send(0, 0, 5), -1);
        due("send(2, 0, 11), the spring has 10", x.send(2, 0, 11), -1);
        due("send(2, 0, 10)", x.send(2, 0, 10), 1);
        due("count(3)", x.count(3), 16);
        due("count(4)", x.count(4), 0);
        due("send(1, 1, 0)", x.send(1, 1, 0), 0);
        due("carrier(1, 5)", carrierOf(x, 1, 5), 1);
        SkinCarriers late = on(LINE + "carrier x plain skin 5 leak 0 thirst 0;noon 1;");
        due("send is not bound to noon", late.send(0, 0, 5), 5);
    }

    static void promise10SendByFogAndFalls() {
        String two = "carrier x plain skin 9 leak 0 thirst 0;carrier y licker skin 9 leak 0 thirst 0;";
        // From SEED 0 the DRAWS below 4 are 0, 0, 0, 1, 2, 3.
        int[] draws = {0, 0, 0, 1, 2, 3};
        SkinCarriers fog = on(LINE + two + "fog 60;spring 200;");
        for (int i = 0; i < draws.length; i++) {
            due("fog " + i, fog.send(0, 0, 2), 2 + draws[i]);
            fog.rest();
        }
        fog.seed(0);
        for (int i = 0; i < draws.length; i++) {
            due("a licker's fog " + i, fog.send(1, 0, 2), 3 + draws[i]);
            fog.rest();
        }
        due("fog above", on(LINE + two + "fog 61;").send(1, 0, 2), 2);
        due("fog only at the end stations", on(LINE.replace("60", "10") + two + "fog 50;").send(1, 0, 2), 2);
        due("no fog told, high 98", on(LINE.replace("60", "98") + two).send(1, 0, 2), 2);
        due("no fog told, high 99", on(LINE.replace("60", "99") + two).send(1, 0, 2), 3);
        due("a full skin", on(LINE + two + "fog 60;").send(1, 0, 9), 9);
        SkinCarriers draw = on(LINE + two + "fog 60;spring 200;");
        for (int i = 0; i < 3; i++) {
            draw.send(0, 0, 9);
            draw.rest();
        }
        due("a full skin draws, too", draw.send(0, 0, 2), 3);
        SkinCarriers falls = on(LINE.replace("60 fall 0", "60 fall 5").replace("50 fall 0", "50 fall 9").replace("70 fall 0", "70 fall 9") + two);
        due("a fall", falls.send(0, 0, 6), 9);
        due("what the fall still gives", falls.station(1, 2), 2);
        due("no fall at the spring", falls.station(0, 2), 9);
        due("no fall at the city", falls.station(2, 2), 9);
        due("the rest of the fall", falls.send(1, 0, 6), 8);
        due("nothing more", falls.station(1, 2), 0);
        falls.rest();
        due("full again", falls.station(1, 2), 5);
        SkinCarriers ahead = on(LINE.replace("60 fall 0", "60 fall 5") + "carrier m mule skin 4 leak 5 thirst 0;carrier x cousin skin 9 leak 0 thirst 0;owes x m 1;drink left;");
        due("a fall comes ahead of the drinking", ahead.send(0, 0, 8), 0);
        due("the mouthfuls of it", ahead.drank(0, 2), 8);
        due("a cousin who owes takes of the fall", ahead.send(1, 0, 1), 1);
        due("what was left in it", ahead.station(1, 2), 0);
    }

    static void promise10Pay() {
        String three = LINE + "carrier x plain skin 20 leak 0 thirst 0;carrier y plain skin 20 leak 0 thirst 0;carrier z plain skin 20 leak 0 thirst 0;";
        SkinCarriers x = on(three + "price 10 - above + came * 2;");
        x.send(0, 0, 5);
        due("carrier(0, 6)", carrierOf(x, 0, 6), 50);
        x.send(1, 0, 10);
        due("carrier(1, 6)", carrierOf(x, 1, 6), 70);
        x.send(2, 0, 10);
        due("carrier(2, 6), below 0", carrierOf(x, 2, 6), 0);
        x.rest();
        x.send(0, 0, 1);
        due("carrier(0, 6), in all", carrierOf(x, 0, 6), 60);
        SkinCarriers dear = on(three + "price 99 + came;");
        dear.send(0, 0, 2);
        due("price 99", carrierOf(dear, 0, 6), 198);
        dear.send(1, 0, 2);
        due("price above 99", carrierOf(dear, 1, 6), 198);
        SkinCarriers plain = on(three);
        plain.send(0, 0, 7);
        due("no price told", carrierOf(plain, 0, 6), 7);
    }

    static void promise11Rest() {
        SkinCarriers x = on(BASE);
        x.send(0, 0, 20);
        due("rest()", x.rest(), 15);
        due("count(3)", x.count(3), 0);
        due("count(4)", x.count(4), 30);
        due("count(6)", x.count(6), 0);
        due("station(1, 2)", x.station(1, 2), 5);
        due("carrier(0, 5)", carrierOf(x, 0, 5), 0);
        due("carrier(0, 6)", carrierOf(x, 0, 6), 15);
        due("drank(0, 0)", x.drank(0, 0), -1);
        due("rest() again", x.rest(), 0);
        due("send again", x.send(0, 0, 20), 15);
        SkinCarriers came = on(LINE + "carrier x plain skin 9 leak 0 thirst 0;price came + 1;");
        came.send(0, 0, 9);
        came.rest();
        came.send(0, 0, 9);
        due("nobody came", carrierOf(came, 0, 6), 18);
        came.patch(0, true);
        came.rest();
        due("rest leaves what can be undone", came.count(7), 1);
        due("rest leaves patches", carrierOf(came, 0, 4), 1);
    }

    static void promise12Seed() {
        SkinCarriers x = on(LINE + "carrier x plain skin 9 leak 0 thirst 0;fog 0;");
        due("seed(-1)", x.seed(-1), false);
        due("seed(10000)", x.seed(10000), false);
        due("seed(0)", x.seed(0), true);
        due("seed(9999)", x.seed(9999), true);
        long g = (9999L * 1103515245L + 12345L) % (1L << 31);
        due("send", x.send(0, 0, 2), 2 + g / 65536 % 4);
        x.rest();
        x.seed(-5);
        g = (g * 1103515245L + 12345L) % (1L << 31);
        due("a wrong seed changes nothing", x.send(0, 0, 2), 2 + g / 65536 % 4);
    }

    static void promise13Drank() {
        SkinCarriers x = on(BASE + "carrier tim plain skin 5 leak 0 thirst 0;");
        x.send(0, 0, 20);
        x.send(3, 0, 2);
        x.send(2, 0, 8);
        due("count(6), a drinking of 0 is not there", x.count(6), 2);
        int[][] rows = {{0, 1, 3, -1}, {2, 1, 4, -1}, {-1, -1, -1, -1}};
        for (int i = 0; i < 3; i++) {
            for (int what = 0; what < 4; what++) {
                due("drank(" + i + ", " + what + ")", x.drank(i, what), rows[i][what]);
            }
        }
        due("drank(-1, 0)", x.drank(-1, 0), -1);
        due("drank(0, -1)", x.drank(0, -1), -1);
    }

    static void promise14Best() {
        SkinCarriers x = on(BASE);
        due("best(0, 20, 0)", x.best(0, 20, 0), 0);
        due("best(0, 20, 1)", x.best(0, 20, 1), 11);
        due("best(2, 30, 1)", x.best(2, 30, 1), 20);
        due("best(1, 10, 0), equal ones", x.best(1, 10, 0), 0);
        due("best(1, 10, 1)", x.best(1, 10, 1), 0);
        due("best(0, 0, 1)", x.best(0, 0, 1), 0);
        due("best(0, 21, 0)", x.best(0, 21, 0), -1);
        due("best(0, -1, 0)", x.best(0, -1, 0), -1);
        due("best(3, 1, 0)", x.best(3, 1, 0), -1);
        due("best(0, 1, 2)", x.best(0, 1, 2), -1);
        due("best(0, 1, -1)", x.best(0, 1, -1), -1);
        String drier = BASE.replace("noon 120", "drink 9;noon ");
        due("the straight one is best", on(drier.replace("noon ", "noon 99")).best(0, 20, 0), 1);
        due("noon just there", on(drier.replace("noon ", "noon 99")).best(0, 20, 1), 9);
        due("too late by one", on(drier.replace("noon ", "noon 98")).best(0, 20, 0), 0);
        due("none by noon", on(drier.replace("noon ", "noon 49")).best(0, 20, 0), -1);
        due("none by noon", on(drier.replace("noon ", "noon 49")).best(0, 20, 1), -1);
        x.send(0, 0, 20);
        due("who was sent, too", x.best(0, 20, 1), 11);
    }

    static void promise15Plan() {
        SkinCarriers x = on(BASE);
        int[] row = {20, 0, -1, 0, -1, 30, 0};
        for (int what = -1; what < 6; what++) {
            due("plan(" + what + ")", x.plan(what), row[what + 1]);
        }
        due("plan(6)", x.plan(6), -2);
        due("plan(-2)", x.plan(-2), -2);
        due("plan(max)", x.plan(Integer.MAX_VALUE), -2);
        due("plan(min)", x.plan(Integer.MIN_VALUE), -2);
        x.send(2, 0, 30);
        due("plan(-1) is of a whole day", x.plan(-1), 20);
        x.patch(0, true);
        x.patch(2, true);
        due("plan(-1) patched", x.plan(-1), 23);
        x.undo();
        x.undo();
        due("plan(-1) undone", x.plan(-1), 20);
        SkinCarriers equal = on(LINE + "carrier x plain skin 9 leak 1 thirst 0;carrier y plain skin 9 leak 1 thirst 0;spring 9;");
        due("equal ones, together", equal.plan(-1), 7);
        due("equal ones, CARRIER 0 has least", equal.plan(0), 0);
        due("equal ones, CARRIER 1 has it", equal.plan(2), 9);
        SkinCarriers none = on(LINE + "carrier x plain skin 9 leak 1 thirst 0;noon 19;");
        due("none by noon", none.plan(-1), 0);
        due("none by noon", none.plan(0), 0);
        due("none by noon", none.plan(1), -1);
        SkinCarriers steps = on(LINE + "carrier x plain skin 9 leak 0 thirst 0;drink (6 < left) * 4;");
        due("more is not more", steps.plan(-1), 6);
        due("the least load", steps.plan(0), 6);
        SkinCarriers dry = on(LINE + "carrier x plain skin 9 leak 0 thirst 0;spring 0;");
        due("a dry spring", dry.plan(-1), 0);
        SkinCarriers all = on(LINE + "carrier x mule skin 60 leak 0 thirst 0;carrier y mule skin 60 leak 0 thirst 0;spring 200;");
        due("a full spring", all.plan(-1), 200);
        due("a full spring, the first", all.plan(0), 80);
        due("a full spring, the second", all.plan(2), 120);
    }

    static void promise16Relay() {
        SkinCarriers x = on(BASE);
        int[] twenty = {11, 0, 0, 0, -1, -1};
        int[] thirty = {20, 0, 2, 2, -1, -1};
        for (int what = 0; what < 6; what++) {
            due("relay(20, " + what + ")", x.relay(20, what), twenty[what]);
            due("relay(30, " + what + ")", x.relay(30, what), thirty[what]);
        }
        due("relay(0, 0)", x.relay(0, 0), 0);
        due("relay(60, 0), what does not go in is lost", x.relay(60, 0), 20);
        due("relay(61, 0)", x.relay(61, 0), -1);
        due("relay(-1, 0)", x.relay(-1, 0), -1);
        due("relay(20, -1)", x.relay(20, -1), -1);
        due("relay(20, max)", x.relay(20, Integer.MAX_VALUE), -1);
        SkinCarriers hand = on(LINE + "carrier x plain skin 30 leak 1 thirst 0;carrier y plain skin 20 leak 0 thirst 9;");
        due("not handed on", hand.relay(30, 0), 28);
        due("not handed on", hand.relay(30, 3), 0);
        SkinCarriers first = on(LINE + "carrier x plain skin 30 leak 9 thirst 5;carrier y plain skin 18 leak 0 thirst 9;");
        due("the one who came drinks first", first.relay(30, 0), 16);
        SkinCarriers better = on(LINE + "carrier x plain skin 30 leak 9 thirst 0;carrier y plain skin 28 leak 0 thirst 9;");
        due("from x to y", better.relay(30, 0), 21);
        due("from x", better.relay(30, 2), 0);
        due("to y", better.relay(30, 3), 1);
        SkinCarriers minutes = on(LINE + "carrier m mule skin 30 leak 0 thirst 0;drink minute;");
        due("a mule's minutes in the E", minutes.relay(30, 0), 15);
        due("a relay by noon", on(LINE + "carrier m mule skin 30 leak 0 thirst 0;noon 30;").relay(5, 0), 5);
        due("a relay after noon", on(LINE + "carrier m mule skin 30 leak 0 thirst 0;noon 29;").relay(5, 0), -1);
        due("a relay after noon", on(LINE + "carrier m mule skin 30 leak 0 thirst 0;noon 29;").relay(5, 2), -1);
        String one = "carrier a% plain skin 9 leak 0 thirst 0;";
        String four = LINE.replace(" a ", " pa ").replace(" b ", " pb ").replace(" c ", " pc ") + one.replace("%", "a") + one.replace("%", "b") + one.replace("%", "c") + one.replace("%", "d");
        due("four carriers", on(four).relay(5, 0), 5);
        due("five carriers", on(four + one.replace("%", "e")).relay(5, 0), -1);
        due("nobody", on(LINE).relay(5, 0), -1);
        due("one station", on("station a high 0 fall 0;carrier c plain skin 9 leak 0 thirst 0;").relay(5, 0), -1);
        due("no way", on("station a high 0 fall 0;station b high 0 fall 0;carrier c plain skin 9 leak 0 thirst 0;").relay(5, 0), -1);
        SkinCarriers stale = on(LINE + "carrier x plain skin 30 leak 10 thirst 0;");
        due("relay(30, 0)", stale.relay(30, 0), 10);
        stale.patch(0, true);
        due("relay(30, 0) patched", stale.relay(30, 0), 20);
    }

    static void promise17Owe() {
        SkinCarriers x = on(BASE);
        due("owe(1, 0, 3)", x.owe(1, 0, 3), true);
        due("owe(1, 0, 3) again", x.owe(1, 0, 3), false);
        due("owes(1, 0)", x.owes(1, 0), 3);
        due("owe(1, 0, 99)", x.owe(1, 0, 99), true);
        due("owe(1, 0, 100)", x.owe(1, 0, 100), false);
        due("owe(1, 0, -1)", x.owe(1, 0, -1), false);
        due("owe(1, 0, 0)", x.owe(1, 0, 0), true);
        due("owe(0, 1, 0), it is so", x.owe(0, 1, 0), false);
        due("owe(1, 1, 3)", x.owe(1, 1, 3), false);
        due("owe(3, 1, 3)", x.owe(3, 1, 3), false);
        due("owe(1, 3, 3)", x.owe(1, 3, 3), false);
        due("owe(-1, 1, 3)", x.owe(-1, 1, 3), false);
        due("owe(1, -1, 3)", x.owe(1, -1, 3), false);
        due("count(7)", x.count(7), 3);
    }

    static void promise18Owes() {
        SkinCarriers x = on(BASE);
        due("owes(0, 2)", x.owes(0, 2), 5);
        due("owes(2, 0)", x.owes(2, 0), 0);
        due("owes(1, 1)", x.owes(1, 1), -1);
        due("owes(3, 0)", x.owes(3, 0), -1);
        due("owes(0, 3)", x.owes(0, 3), -1);
        due("owes(-1, 0)", x.owes(-1, 0), -1);
        due("owes(0, min)", x.owes(0, Integer.MIN_VALUE), -1);
    }

    static void promise19Debt() {
        SkinCarriers x = on(BASE);
        x.owe(2, 1, 7);
        due("debt(0)", debtOf(x, 0), 5);
        due("debt(1)", debtOf(x, 1), -7);
        due("debt(2)", debtOf(x, 2), 2);
        due("debt(3)", debtOf(x, 3), THROWN);
        due("debt(-1)", debtOf(x, -1), THROWN);
    }

    static void promise20Settled() {
        SkinCarriers x = on(BASE);
        due("settled()", x.settled(), 1);
        x.owe(1, 0, 3);
        due("settled() of 2, 3 and -5", x.settled(), 2);
        x.owe(2, 0, 5);
        x.owe(1, 0, 0);
        due("settled() of a ring", x.settled(), 0);
        StringBuilder six = new StringBuilder();
        for (int i = 0; i < 6; i++) {
            six.append("carrier c").append((char) ('a' + i)).append(" plain skin 1 leak 0 thirst 0;");
        }
        SkinCarriers pairs = on(six + "owes ca cb 1;owes cc cd 2;owes ce cf 3;");
        due("settled() of three pairs", pairs.settled(), 3);
        SkinCarriers whole = on(six + "owes ca cb 10;owes ca cc 10;owes ca cd 10;owes ca ce 10;owes ca cf 10;");
        due("settled() of one to five", whole.settled(), 5);
        SkinCarriers triples = on(six + "owes ca cc 3;owes cb cc 4;owes cd cf 5;owes ce cf 8;");
        due("settled() of two triples", triples.settled(), 4);
    }

    static void promise21Missed() {
        SkinCarriers x = on(BASE);
        int[][] rows = {{0, 1, 0}, {1, 0, 0}, {4, 1, 4}, {5, 1, 3}, {9, 1, 7}, {10, 0, 0}, {99, 0, 0}, {100, -1, -1}, {-1, -1, -1}};
        for (int[] row : rows) {
            due("missed(" + row[0] + ", 0)", x.missed(row[0], 0), row[1]);
            due("missed(" + row[0] + ", 1)", x.missed(row[0], 1), row[2]);
        }
        due("missed(5, 2)", x.missed(5, 2), -1);
        due("missed(5, -1)", x.missed(5, -1), -1);
        SkinCarriers y = on("carrier a plain skin 1 leak 0 thirst 2;carrier b plain skin 1 leak 0 thirst 2;carrier c plain skin 1 leak 0 thirst 3;carrier d plain skin 1 leak 0 thirst 0;");
        due("missed(5, 0)", y.missed(5, 0), 4);
        due("missed(5, 1)", y.missed(5, 1), 4);
        due("missed(2, 1)", y.missed(2, 1), 0);
        due("missed(0, 0)", y.missed(0, 0), 2);
    }

    static void promise22Odds() {
        SkinCarriers y = on("carrier a plain skin 1 leak 0 thirst 2;carrier b plain skin 1 leak 0 thirst 2;carrier c plain skin 1 leak 0 thirst 3;carrier d plain skin 1 leak 0 thirst 1;");
        // 5 comes of a c, of b c and of a b d.
        int[][] rows = {{0, 2, 3}, {1, 2, 3}, {2, 2, 3}, {3, 1, 3}};
        for (int[] row : rows) {
            due("odds(5, " + row[0] + ", 0)", y.odds(5, row[0], 0), row[1]);
            due("odds(5, " + row[0] + ", 1)", y.odds(5, row[0], 1), row[2]);
        }
        // 3 comes of c, of a d and of b d; 4 of a b and of c d.
        due("odds(4, 0, 0)", y.odds(4, 0, 0), 1);
        due("odds(4, 0, 1)", y.odds(4, 0, 1), 2);
        due("odds(1, 0, 0)", y.odds(1, 0, 0), 0);
        due("odds(1, 0, 1)", y.odds(1, 0, 1), 1);
        due("odds(1, 3, 0)", y.odds(1, 3, 0), 1);
        due("odds(1, 3, 1)", y.odds(1, 3, 1), 1);
        SkinCarriers low = on("carrier a plain skin 1 leak 0 thirst 2;carrier b plain skin 1 leak 0 thirst 2;carrier d plain skin 1 leak 0 thirst 0;");
        due("odds(2, 0, 0) in lowest terms", low.odds(2, 0, 0), 1);
        due("odds(2, 0, 1) in lowest terms", low.odds(2, 0, 1), 2);
        due("odds(9, 0, 0), no set", y.odds(9, 0, 0), -1);
        due("odds(5, 4, 0)", y.odds(5, 4, 0), -1);
        due("odds(5, -1, 0)", y.odds(5, -1, 0), -1);
        due("odds(5, 0, 2)", y.odds(5, 0, 2), -1);
        due("odds(5, 0, -1)", y.odds(5, 0, -1), -1);
        due("odds(100, 0, 0)", y.odds(100, 0, 0), -1);
        due("odds(-1, 0, 0)", y.odds(-1, 0, 0), -1);
    }

    static void promise23Patch() {
        SkinCarriers x = on(BASE);
        due("patch(0, false), it is so", x.patch(0, false), false);
        due("patch(0, true)", x.patch(0, true), true);
        due("patch(0, true) again", x.patch(0, true), false);
        due("trip(0, 0, 20, 0)", x.trip(0, 0, 20, 0), 14);
        due("patch(0, false)", x.patch(0, false), true);
        due("trip(0, 0, 20, 0)", x.trip(0, 0, 20, 0), 11);
        due("patch(3, true)", x.patch(3, true), false);
        due("patch(-1, true)", x.patch(-1, true), false);
        due("count(7)", x.count(7), 2);
    }

    static void promise24Undo() {
        SkinCarriers x = on(BASE);
        x.owe(0, 2, 6);
        x.patch(1, true);
        x.owe(0, 2, 7);
        due("count(7)", x.count(7), 3);
        due("undo()", x.undo(), true);
        due("owes(0, 2)", x.owes(0, 2), 6);
        due("carrier(1, 4)", carrierOf(x, 1, 4), 1);
        due("undo()", x.undo(), true);
        due("carrier(1, 4)", carrierOf(x, 1, 4), 0);
        due("undo()", x.undo(), true);
        due("owes(0, 2)", x.owes(0, 2), 5);
        due("undo()", x.undo(), false);
        for (int i = 1; i <= 25; i++) {
            x.owe(1, 2, i);
            due("count(7)", x.count(7), Math.min(i, 20));
        }
        for (int i = 0; i < 20; i++) {
            due("undo()", x.undo(), true);
        }
        due("owes(1, 2), the last 20 undone", x.owes(1, 2), 5);
        due("undo()", x.undo(), false);
        // The first one, of a patch, is pushed out by 20 debts: the rows must move together.
        x.patch(2, true);
        for (int i = 1; i <= 10; i++) {
            x.owe(0, 1, i);
            x.owe(2, 0, i);
        }
        for (int i = 0; i < 20; i++) {
            due("undo()", x.undo(), true);
        }
        due("undo()", x.undo(), false);
        due("owes(0, 1)", x.owes(0, 1), 0);
        due("owes(2, 0)", x.owes(2, 0), 0);
        due("carrier(2, 4)", carrierOf(x, 2, 4), 1);
        x.send(0, 0, 20);
        x.seed(5);
        x.rest();
        due("what is no patch and no debt", x.undo(), false);
    }

    static void promise25Mark() {
        SkinCarriers x = on(BASE);
        due("mark(4, false)", x.mark(4, false), false);
        due("mark(-1, false)", x.mark(-1, false), false);
        due("mark(0, true)", x.mark(0, true), false);
        x.send(0, 0, 20);
        x.patch(1, true);
        x.owe(2, 1, 9);
        due("mark(3, false)", x.mark(3, false), true);
        due("count(7) stays", x.count(7), 2);
        lay(x, "fog");
        x.send(2, 0, 10);
        x.undo();
        x.patch(0, true);
        x.rest();
        x.seed(99);
        due("mark(3, true)", x.mark(3, true), true);
        due("count(3)", x.count(3), 15);
        due("count(4)", x.count(4), 10);
        due("count(6)", x.count(6), 1);
        due("count(7)", x.count(7), 0);
        due("count(8), the TAPE is not held", x.count(8), 3);
        due("station(1, 2)", x.station(1, 2), 1);
        due("owes(2, 1)", x.owes(2, 1), 9);
        due("carrier(0, 4)", carrierOf(x, 0, 4), 0);
        due("carrier(1, 4)", carrierOf(x, 1, 4), 1);
        due("carrier(0, 5)", carrierOf(x, 0, 5), 1);
        due("carrier(2, 5)", carrierOf(x, 2, 5), 0);
        due("carrier(2, 6)", carrierOf(x, 2, 6), 0);
        due("drank(0, 2)", x.drank(0, 2), 3);
        due("undo()", x.undo(), false);
        due("mark(3, true) once more", x.mark(3, true), true);
        due("mark(2, true)", x.mark(2, true), false);
        x.rest();
        due("drank(0, 0)", x.drank(0, 0), -1);
        x.send(2, 0, 30);
        due("drank(0, 0)", x.drank(0, 0), 2);
        x.mark(3, true);
        due("drank(0, 0), the book is held", x.drank(0, 0), 0);
        due("drank(0, 1), the book is held", x.drank(0, 1), 1);
        due("drank(0, 2), the book is held", x.drank(0, 2), 3);
        SkinCarriers draws = on(LINE + "carrier x plain skin 9 leak 0 thirst 0;fog 0;spring 200;");
        for (int i = 0; i < 3; i++) {
            draws.send(0, 0, 1);
            draws.rest();
        }
        draws.mark(0, false);
        due("the fourth DRAW", draws.send(0, 0, 1), 2);
        draws.mark(0, true);
        due("the fourth DRAW again", draws.send(0, 0, 1), 2);
        due("mark(0, false) without a mountain", new SkinCarriers().mark(0, false), true);
    }

    static void promise26Count() {
        SkinCarriers x = on(BASE);
        x.send(0, 0, 20);
        x.patch(0, true);
        lay(x, "ab c");
        int[] counts = {3, 3, 3, 15, 10, 120, 1, 1, 4};
        for (int what = 0; what < counts.length; what++) {
            due("count(" + what + ")", x.count(what), counts[what]);
        }
        due("count(9)", x.count(9), -1);
        due("count(-1)", x.count(-1), -1);
        due("count(max)", x.count(Integer.MAX_VALUE), -1);
    }
}
