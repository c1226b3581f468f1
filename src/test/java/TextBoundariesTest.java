/**
 * Promises 1 to 3: a test of its own for each sentence on a new object, the TAPE, its TOKENS and the language that names
 * a boundary case. The sentence stands above its test.
 */
public final class TextBoundariesTest extends Checks {
    private static final String[] KEPT_WORDS = {"station", "high", "fall", "way", "long", "thorns", "carrier", "skin", "leak",
        "thirst", "owes", "drink", "price", "fog", "spring", "noon", "plain", "goat", "mule", "cousin", "patched", "licker",
        "not", "and", "or"};
    private static final String[] KINDS = {"plain", "goat", "mule", "cousin", "patched", "licker"};
    private static final String TWO_STATIONS = station("a", 1, 1) + station("b", 2, 2);
    private static final String TWO_CARRIERS = carrier("c", "plain", 9, 1, 1) + carrier("d", "goat", 9, 1, 1);
    private static final String FOUR = TWO_STATIONS + TWO_CARRIERS;

    public static void main(String[] args) {
        runAll(TextBoundariesTest.class);
    }

    // ---- Promise 1: a new object

    /** "No STATION". */
    static void promise01NoStation() {
        SkinCarriers x = new SkinCarriers();
        due("count(0)", x.count(0), 0);
        due("count(1)", x.count(1), 0);
        for (int what = 0; what < 3; what++) {
            due("station(0, " + what + ")", x.station(0, what), NONE);
        }
        due("way(0, 0, 0)", x.way(0, 0, 0), NONE);
        due("way(0, 1, 0)", x.way(0, 1, 0), NONE);
        due("paths()", x.paths(), 0);
        due("path(0, 0)", x.path(0, 0), NONE);
        due("relay(0, 0)", x.relay(0, 0), NONE);
    }

    /** "nobody". */
    static void promise01Nobody() {
        SkinCarriers x = new SkinCarriers();
        due("count(2)", x.count(2), 0);
        for (int what = 0; what < 7; what++) {
            due("carrier(0, " + what + ")", carrierOf(x, 0, what), THROWN);
        }
        due("debt(0)", debtOf(x, 0), THROWN);
        due("trip(0, 0, 0, 0)", x.trip(0, 0, 0, 0), NONE);
        due("send(0, 0, 0)", x.send(0, 0, 0), NONE);
        due("best(0, 0, 0)", x.best(0, 0, 0), NONE);
        due("plan(-1)", x.plan(NONE), 0);
        due("plan(0)", x.plan(0), -2);
        due("plan(1)", x.plan(1), -2);
        due("owe(0, 1, 1)", x.owe(0, 1, 1), false);
        due("owes(0, 1)", x.owes(0, 1), NONE);
        due("settled()", x.settled(), 0);
        due("missed(0, 0), the empty set", x.missed(0, 0), 1);
        due("missed(0, 1)", x.missed(0, 1), 0);
        due("missed(1, 0)", x.missed(1, 0), 0);
        due("odds(0, 0, 0)", x.odds(0, 0, 0), NONE);
        due("patch(0, true)", x.patch(0, true), false);
    }

    /** Nothing was done yet; spring 60 and noon 360, as nothing was told. */
    static void promise01NothingWasDone() {
        SkinCarriers x = new SkinCarriers();
        int[] counts = {0, 0, 0, 0, 60, 360, 0, 0, 0};
        for (int what = 0; what < counts.length; what++) {
            due("count(" + what + ")", x.count(what), counts[what]);
        }
        due("drank(0, 0)", x.drank(0, 0), NONE);
        due("undo()", x.undo(), false);
        for (int mark = 0; mark < 4; mark++) {
            due("mark(" + mark + ", true)", x.mark(mark, true), false);
        }
        due("rest()", x.rest(), 0);
        due("count(4) after rest()", x.count(4), 60);
        due("mountain() of the empty TAPE", x.mountain(), 0);
    }

    // ---- Promise 2: feed

    /** "others than 10 and 32 .. 126 .. are left out". */
    static void promise02OtherSignsAreLeftOut() {
        for (int sign = 0; sign < 256; sign++) {
            int taken = sign == 10 || sign >= 32 && sign <= 126 ? 1 : 0;
            due("feed of sign " + sign + ", highest of a", new SkinCarriers().feed((long) sign << 56, 0, 0), taken);
            due("feed of sign " + sign + ", lowest of c", new SkinCarriers().feed(0, 0, sign), taken);
        }
        due("feed of 24 signs that are none", new SkinCarriers().feed(-1, -1, -1), 0);
    }

    /** What is left out leaves no gap in a WORD or NUMBER. */
    static void promise02LeftOutSignsLeaveNoGap() {
        SkinCarriers x = new SkinCarriers();
        due("feed of n 0 oo 128 255 n blank", x.feed(0x6E006F6F80FF6E20L, 0x3700000000090D38L, 0x3B), 8);
        due("mountain()", x.mountain(), 0);
        due("count(5)", x.count(5), 78);
    }

    /** "the bytes of a, b, c, of each the highest first". */
    static void promise02TheHighestFirst() {
        SkinCarriers x = new SkinCarriers();
        due("feed of <noon 77;spring 88;fog 9;>", x.feed(0x6E6F6F6E2037373BL, 0x737072696E672038L, 0x383B666F6720393BL), 24);
        due("mountain()", x.mountain(), 0);
        due("count(5)", x.count(5), 77);
        due("count(4)", x.count(4), 88);
    }

    /** "Up to 24 signs come behind the TAPE". */
    static void promise02UpTo24Behind() {
        SkinCarriers x = new SkinCarriers();
        due("feed of none", x.feed(0, 0, 0), 0);
        due("feed of 24", x.feed(0x2020202020202020L, 0x2020202020202020L, 0x2020202020202020L), 24);
        due("feed of 24 more", x.feed(0x2020202020202020L, 0x2020202020202020L, 0x2020202020202020L), 48);
        due("feed of none", x.feed(0, 0, 0), 48);
        lay(x, "noon 5;");
        due("count(8)", x.count(8), 55);
        due("mountain()", x.mountain(), 0);
        due("count(5)", x.count(5), 5);
    }

    /** "what is beyond 1,000 [is] left out". */
    static void promise02BeyondOneThousandIsLeftOut() {
        SkinCarriers x = new SkinCarriers();
        lay(x, " ".repeat(993) + "noon 5");
        due("count(8)", x.count(8), 999);
        due("feed of <;x>, of which one goes on it", x.feed(0x3B78, 0, 0), 1000);
        due("feed of <x>, of which none does", x.feed(0x78, 0, 0), 1000);
        due("feed of 24", x.feed(0x7878787878787878L, 0x7878787878787878L, 0x7878787878787878L), 1000);
        due("mountain()", x.mountain(), 0);
        due("count(5)", x.count(5), 5);
        lay(x, " ".repeat(994) + "noon 5;");
        due("mountain() without its last sign", x.mountain(), 1 + 16 * 1000);
    }

    /** "what is beyond 1,000": signs that are left out do not count for it. */
    static void promise02LeftOutSignsDoNotCountForOneThousand() {
        SkinCarriers x = new SkinCarriers();
        lay(x, " ".repeat(992));
        due("feed of 16 that are none and 7 that are some", x.feed(-1, 0, 0x6E6F6F6E20353B00L), 999);
        due("feed of one", x.feed(32, 0, 0), 1000);
        due("mountain()", x.mountain(), 0);
        due("count(5)", x.count(5), 5);
    }

    /** "how many there are". */
    static void promise02HowManyThereAre() {
        SkinCarriers x = new SkinCarriers();
        for (int i = 1; i <= 44; i++) {
            int there = Math.min(1000, 24 * i);
            due("feed " + i, x.feed(0x2020202020202020L, 0x2020202020202020L, 0x2020202020202020L), there);
            due("count(8)", x.count(8), there);
        }
    }

    // ---- Promise 3: mountain, the TAPE and its TOKENS

    /** "what reads it takes it: it is empty then". */
    static void promise03TheTapeIsTaken() {
        SkinCarriers x = on("noon 5;");
        due("count(8)", x.count(8), 0);
        due("mountain() of the empty TAPE", x.mountain(), 0);
        due("count(5), the last MOUNTAIN told nothing", x.count(5), 360);
        due("mountain() with a FAULT", read(x, "noon 7;noon"), 3 + 16 * 7);
        due("count(8)", x.count(8), 0);
        due("feed begins anew", x.feed(0x6E6F6F6E20393BL, 0, 0), 7);
        due("mountain()", x.mountain(), 0);
        due("count(5)", x.count(5), 9);
    }

    /** "blanks (10, 32) between where one likes". */
    static void promise03BlanksWhereOneLikes() {
        good("");
        good(" ");
        good("\n");
        good(" \n\n noon \n 5 \n;\n \n");
        good("noon5;fog5;spring5;");
        good("station a high1fall2;station b high3fall4;way a b long5thorns6;carrier c goat skin7leak8thirst9;");
        fault(1, "^no on 5;");
        fault(1, "noon 1 ^2;");
    }

    /** "TOKENS, each as long as can be". */
    static void promise03TokensAsLongAsCanBe() {
        fault(1, "^stationa high 1 fall 1;");
        fault(1, "^noonfog 5;");
        fault(1, "drink ^notleft;");
        fault(1, "drink left ^andleft;");
        fault(4, "noon ^5555;");
        good(station("stations", 1, 1) + station("notleft", 1, 1) + station("ands", 1, 1) + station("goats", 1, 1));
    }

    /** "WORDS (letters a .. z, 8 at most)", "a longer WORD .., too, at its first sign". */
    static void promise03WordsOf8Letters() {
        good(station("abcdefgh", 1, 1));
        good(station("zzzzzzzz", 1, 1));
        good(station("a", 1, 1));
        fault(1, "station ^abcdefghi high 1 fall 1;");
        fault(1, "station ^" + "a".repeat(200));
        fault(1, station("abcdefgh", 1, 1) + station("a", 1, 1) + "way a ^abcdefghi long 1 thorns 0;");
        fault(1, "drink ^thirstthirst;");
        fault(1, "noon 5 ^aaaaaaaaa;");
    }

    /** A TOKEN at the very end of a full TAPE, and one that the end cuts short. */
    static void promise03TheLastTokenOfAFullTape() {
        String[] words = {"n", "noo", "noon", "not", "no", "stati", "price"};
        for (String word : words) {
            boolean begins = word.equals("noon") || word.equals("price");
            String text = " ".repeat(1000 - word.length()) + word;
            due("<.. " + word + ">", read(new SkinCarriers(), text), begins ? 1 + 16 * 1000 : 1 + 16 * (1000 - word.length()));
        }
        due("a full NUMBER", read(new SkinCarriers(), " ".repeat(991) + "noon 9999"), 4 + 16 * 996);
        due("a NUMBER cut short", read(new SkinCarriers(), " ".repeat(992) + "noon 99995;"), 1 + 16 * 1000);
        due("a full sign", read(new SkinCarriers(), " ".repeat(993) + "noon 9;"), 0);
    }

    /** "letters a .. z": not those around them, nor capital ones. */
    static void promise03LettersAToZ() {
        good(station("az", 1, 1) + station("za", 1, 1));
        fault(1, "station ^`a");
        fault(1, "station ^{a");
        fault(1, "station ^A");
        fault(1, "station ^Z");
        fault(1, "station a^A high 1 fall 1;");
        fault(1, "station a^_b high 1 fall 1;");
    }

    /** "NUMBERS (1 to 4 digits ..)", "a longer .. NUMBER, too, at its first sign". */
    static void promise03NumbersOf4Digits() {
        good("noon 5;");
        good("noon 0005;");
        fault(1, "noon ^00005;");
        fault(4, "noon ^9999;");
        fault(4, "noon ^0000;");
        fault(1, "noon ^10000;");
        fault(1, "noon ^;");
        fault(1, "noon ^99999999999999999999;");
        good("drink 9999;");
        fault(1, "drink ^10000;");
        fault(1, "drink ^00001;");
    }

    /** Digits are 0 to 9, not the signs around them. */
    static void promise03DigitsZeroToNine() {
        good("noon 10;fog 90;");
        fault(1, "noon 1^/;");
        fault(1, "noon 1^:;");
        fault(1, "noon ^-1;");
        fault(1, "noon ^+1;");
        fault(1, "noon 1^.5;");
    }

    /** "a letter may stand right behind" a NUMBER. */
    static void promise03ALetterRightBehindANumber() {
        good("station a high 1fall 1;");
        good("drink 1and 2or 3;");
        fault(1, "noon 5^a;");
        fault(1, "noon ^12345a;");
    }

    /** "the signs ( ) < = + - * ;  All else .. is none." */
    static void promise03AllElseIsNone() {
        for (int sign = 33; sign <= 126; sign++) {
            boolean isLetter = sign >= 'a' && sign <= 'z';
            boolean isDigit = sign >= '0' && sign <= '9';
            if (isLetter || isDigit) {
                continue;
            }
            String text = String.valueOf((char) sign);
            due("<" + text + ">", read(new SkinCarriers(), text), 1);
            due("<noon 5" + text + ">", read(new SkinCarriers(), "noon 5" + text), sign == ';' ? 0 : 1 + 16 * 6);
            due("<station " + text + ">", read(new SkinCarriers(), "station " + text), 1 + 16 * 8);
            boolean joins = "<=+-*".indexOf(sign) >= 0;
            int due = sign == ';' ? 0 : joins ? 1 + 16 * 8 : 1 + 16 * 7;
            due("<drink 1" + text + ">", read(new SkinCarriers(), "drink 1" + text), due);
        }
    }

    // ---- Promise 3: mountain, what is told

    /** "any number of": none, and in any order. */
    static void promise03AnyNumberOf() {
        SkinCarriers none = on("");
        int[] counts = {0, 0, 0, 0, 60, 360, 0, 0, 0};
        for (int what = 0; what < counts.length; what++) {
            due("count(" + what + ")", none.count(what), counts[what]);
        }
        SkinCarriers x = on("noon 9;" + TWO_CARRIERS + "price 2;owes d c 4;" + station("z", 3, 0) + "drink 1;" + station("y", 0, 0)
            + "fog 0;" + way("y", "z", 1, 0) + "spring 8;" + station("w", 5, 5) + carrier("e", "mule", 1, 0, 0));
        int[] told = {3, 1, 3, 0, 8, 9, 0, 0, 0};
        for (int what = 0; what < told.length; what++) {
            due("count(" + what + ")", x.count(what), told[what]);
        }
    }

    /** Each is closed by ; and there is none without its first word. */
    static void promise03EachHasItsSemicolon() {
        fault(1, "noon 5^");
        fault(1, "noon 5 ^noon 6;");
        fault(1, "^;");
        fault(1, "noon 5;^;");
        fault(1, "station a high 1 fall 1^");
        fault(1, TWO_STATIONS + "way a b long 1 thorns 1 ^way");
        fault(1, "carrier c goat skin 1 leak 1 thirst 1 ^carrier");
        fault(1, TWO_CARRIERS + "owes c d 1 ^owes");
        fault(1, "drink 1 ^drink");
        fault(1, "price 1 ^price");
    }

    private static String stations(int howMany) {
        StringBuilder text = new StringBuilder();
        for (int i = 0; i < howMany; i++) {
            text.append(station("s" + (char) ('a' + i), i, 0));
        }
        return text.toString();
    }

    /** "station: 7 at most", "5 one too many: the words station of an eighth". */
    static void promise03SevenStations() {
        SkinCarriers x = on(stations(7));
        due("count(0)", x.count(0), 7);
        due("station(6, 0)", x.station(6, 0), 6);
        due("station(7, 0)", x.station(7, 0), NONE);
        fault(5, stations(7) + "^station sh high 1 fall 1;");
        fault(5, stations(7) + "^station");
        fault(5, stations(7) + "^station sa");
        fault(1, stations(6) + "station^");
    }

    /** "numbered as told: 0 is the spring, the last one told the CITY". */
    static void promise03TheLastOneToldIsTheCity() {
        String four = station("d", 4, 0) + station("c", 3, 0) + way("d", "c", 1, 0);
        SkinCarriers two = on(four);
        due("station(0, 0)", two.station(0, 0), 4);
        due("station(1, 0)", two.station(1, 0), 3);
        due("paths()", two.paths(), 1);
        SkinCarriers three = on(four + station("b", 2, 0));
        due("paths() to the one told last", three.paths(), 0);
        SkinCarriers joined = on(four + station("b", 2, 0) + way("b", "d", 1, 0));
        due("path(0, 1)", joined.path(0, 1), 2);
    }

    /** A NUMBER from least to most is taken there; beyond it is FAULT 4. */
    private static void numbers(String ahead, int least, int most, String behind) {
        good(ahead + least + behind);
        good(ahead + most + behind);
        if (least > 0) {
            fault(4, ahead + "^" + (least - 1) + behind);
        }
        fault(4, ahead + "^" + (most + 1) + behind);
        fault(4, ahead + "^9999" + behind);
        fault(1, ahead + "^-1" + behind);
    }

    /** "high 0 to 99". */
    static void promise03High0To99() {
        numbers("station a high ", 0, 99, " fall 1;");
        due("station(0, 0)", on(station("a", 99, 9)).station(0, 0), 99);
        due("station(0, 0)", on(station("a", 0, 9)).station(0, 0), 0);
    }

    /** "fall 0 to 9". */
    static void promise03Fall0To9() {
        numbers("station a high 1 fall ", 0, 9, ";");
        due("station(0, 1)", on(station("a", 99, 9)).station(0, 1), 9);
        due("station(0, 1)", on(station("a", 99, 0)).station(0, 1), 0);
    }

    private static String ways(int howMany) {
        StringBuilder text = new StringBuilder();
        int told = 0;
        for (int a = 0; a < 7; a++) {
            for (int b = a + 1; b < 7 && told < howMany; b++) {
                text.append(way("s" + (char) ('a' + a), "s" + (char) ('a' + b), 1 + told, 0));
                told++;
            }
        }
        return text.toString();
    }

    /** "way: 12 at most", "5 one too many: .. way of a 13th". */
    static void promise03TwelveWays() {
        SkinCarriers x = on(stations(7) + ways(12));
        due("count(1)", x.count(1), 12);
        due("way(2, 3, 0), the twelfth", x.way(2, 3, 0), 12);
        due("way(2, 4, 0)", x.way(2, 4, 0), NONE);
        fault(5, stations(7) + ways(12) + "^way sc se long 1 thorns 0;");
        fault(5, stations(7) + ways(12) + "^way");
        fault(5, stations(7) + ways(12) + "^way sa sb");
        fault(5, stations(7) + ways(12) + "^way 5");
        fault(1, stations(7) + ways(11) + "way^");
    }

    /** "way: .. between two STATIONS told", "2 a NAME of no STATION (behind way)". */
    static void promise03AWayIsBetweenTwoStationsTold() {
        fault(2, "way ^a");
        fault(2, station("a", 1, 1) + "way ^b a");
        fault(2, station("a", 1, 1) + "way a ^b long 1 thorns 1;" + station("b", 1, 1));
        fault(2, FOUR + "way ^c a");
        fault(2, FOUR + "way a ^d");
        fault(2, FOUR + "way a ^aa");
        fault(1, FOUR + "way a^");
        fault(1, FOUR + "way a ^5");
        fault(1, FOUR + "way ^1 a");
        fault(1, FOUR + "way a ^long");
    }

    /** "way: .. not the same", "3 .. the second NAME that is the first one". */
    static void promise03AWayIsNotToTheSame() {
        fault(3, FOUR + "way a ^a long 1 thorns 1;");
        fault(3, FOUR + "way b ^b");
        good(FOUR + way("b", "a", 1, 1));
    }

    /** "way: .. each pair once, both ways", "a pair told already (at its second NAME)". */
    static void promise03EachPairOfAWayOnce() {
        String told = FOUR + station("e", 1, 1) + way("a", "b", 5, 6);
        fault(3, told + "way a ^b");
        fault(3, told + "way b ^a long 7 thorns 7;");
        SkinCarriers x = on(told + way("b", "e", 1, 1) + way("e", "a", 2, 2));
        due("way(0, 1, 0)", x.way(0, 1, 0), 5);
        due("way(1, 0, 0)", x.way(1, 0, 0), 5);
        due("way(0, 1, 1)", x.way(0, 1, 1), 6);
        due("way(1, 0, 1)", x.way(1, 0, 1), 6);
    }

    /** "long 1 to 99 (minutes)". */
    static void promise03Long1To99() {
        numbers(FOUR + "way a b long ", 1, 99, " thorns 1;");
        due("way(0, 1, 0)", on(FOUR + way("a", "b", 99, 0)).way(0, 1, 0), 99);
        due("way(0, 1, 0)", on(FOUR + way("a", "b", 1, 0)).way(0, 1, 0), 1);
    }

    /** "thorns 0 to 9". */
    static void promise03Thorns0To9() {
        numbers(FOUR + "way a b long 1 thorns ", 0, 9, ";");
        due("way(0, 1, 1)", on(FOUR + way("a", "b", 99, 9)).way(0, 1, 1), 9);
        due("way(0, 1, 1)", on(FOUR + way("a", "b", 99, 0)).way(0, 1, 1), 0);
    }

    /** "carrier: 6 at most, numbered as told", "5 one too many: .. carrier of a seventh". */
    static void promise03SixCarriers() {
        SkinCarriers x = on(plainOnes(5, 7) + carrier("last", "licker", 8, 0, 0));
        due("count(2)", x.count(2), 6);
        due("carrier(0, 1)", carrierOf(x, 0, 1), 7);
        due("carrier(5, 1)", carrierOf(x, 5, 1), 8);
        due("carrier(6, 1)", carrierOf(x, 6, 1), THROWN);
        fault(5, plainOnes(6, 7) + "^carrier z goat skin 1 leak 1 thirst 1;");
        fault(5, plainOnes(6, 7) + "^carrier");
        fault(5, plainOnes(6, 7) + "^carrier p");
        fault(1, plainOnes(5, 7) + "carrier^");
    }

    /** "KIND is plain, goat, mule, cousin, patched or licker". */
    static void promise03SixKinds() {
        for (int kind = 0; kind < KINDS.length; kind++) {
            due(KINDS[kind], carrierOf(on(carrier("c", KINDS[kind], 9, 1, 1)), 0, 0), kind);
        }
        fault(1, "carrier c ^ox skin 1");
        fault(1, "carrier c ^goats skin 1");
        fault(1, "carrier c ^skin 1");
        fault(1, "carrier c ^5 skin 1");
        fault(1, "carrier c ^not skin 1");
        fault(1, "carrier c^");
    }

    /** "skin 1 to 60 (mouthfuls it holds)". */
    static void promise03Skin1To60() {
        numbers("carrier c goat skin ", 1, 60, " leak 1 thirst 1;");
        numbers("carrier c mule skin ", 1, 60, " leak 1 thirst 1;");
        due("carrier(0, 1)", carrierOf(on(carrier("c", "goat", 60, 0, 0)), 0, 1), 60);
        due("carrier(0, 1)", carrierOf(on(carrier("c", "goat", 1, 0, 0)), 0, 1), 1);
    }

    /** "leak 0 to 20". */
    static void promise03Leak0To20() {
        numbers("carrier c goat skin 1 leak ", 0, 20, " thirst 1;");
        due("carrier(0, 2)", carrierOf(on(carrier("c", "goat", 9, 20, 0)), 0, 2), 20);
        due("carrier(0, 2)", carrierOf(on(carrier("c", "goat", 9, 0, 9)), 0, 2), 0);
    }

    /** "thirst 0 to 9". */
    static void promise03Thirst0To9() {
        numbers("carrier c goat skin 1 leak 1 thirst ", 0, 9, ";");
        due("carrier(0, 3)", carrierOf(on(carrier("c", "goat", 1, 0, 9)), 0, 3), 9);
        due("carrier(0, 3)", carrierOf(on(carrier("c", "goat", 1, 9, 0)), 0, 3), 0);
    }

    /** "owes: two CARRIERS told", "2 a NAME .. of no CARRIER (behind owes) told". */
    static void promise03OwesIsOfTwoCarriersTold() {
        fault(2, "owes ^c");
        fault(2, carrier("c", "goat", 1, 1, 1) + "owes ^d c");
        fault(2, carrier("c", "goat", 1, 1, 1) + "owes c ^d 5;" + carrier("d", "goat", 1, 1, 1));
        fault(2, FOUR + "owes ^a c");
        fault(2, FOUR + "owes c ^b");
        fault(1, FOUR + "owes c ^5");
        fault(1, FOUR + "owes c ^goat");
        fault(1, FOUR + "owes c^");
    }

    /** "owes: .. not the same", "3 .. the second NAME that is the first one". */
    static void promise03OwesIsNotOfTheSame() {
        fault(3, FOUR + "owes c ^c 5;");
        fault(3, FOUR + "owes d ^d 0;");
    }

    /** "owes: .. each pair, this way round, once". */
    static void promise03EachPairOfOwesOnceThisWayRound() {
        fault(3, FOUR + "owes c d 1;owes c ^d 1;");
        fault(3, FOUR + "owes c d 1;owes d c 2;owes d ^c 3;");
        SkinCarriers x = on(FOUR + "owes c d 1;owes d c 2;");
        due("owes(0, 1)", x.owes(0, 1), 1);
        due("owes(1, 0)", x.owes(1, 0), 2);
    }

    /** "owes: .. each pair, this way round, once": all thirty of six CARRIERS. */
    static void promise03AllPairsOfOwes() {
        StringBuilder text = new StringBuilder(plainOnes(6, 1));
        for (int a = 0; a < 6; a++) {
            for (int b = 0; b < 6; b++) {
                if (a != b) {
                    text.append("owes ").append((char) ('p' + a)).append(' ').append((char) ('p' + b)).append(' ').append(10 * a + b + 1).append(';');
                }
            }
        }
        SkinCarriers x = on(text.toString());
        for (int a = 0; a < 6; a++) {
            for (int b = 0; b < 6; b++) {
                due("owes(" + a + ", " + b + ")", x.owes(a, b), a == b ? NONE : 10 * a + b + 1);
            }
        }
        fault(3, text + "owes p ^q 1;");
        fault(3, text + "owes u ^t 1;");
    }

    /** "owes: .. mouthfuls, 1 to 99". */
    static void promise03Owes1To99() {
        numbers(FOUR + "owes c d ", 1, 99, ";");
        due("owes(0, 1)", on(FOUR + "owes c d 99;").owes(0, 1), 99);
        due("owes(0, 1)", on(FOUR + "owes c d 1;").owes(0, 1), 1);
    }

    /** "fog (0 to 99 ..)". */
    static void promise03Fog0To99() {
        numbers("fog ", 0, 99, ";");
    }

    /** "fog (..; 99 without)": a licker has 1 more at a STATION as high. */
    static void promise03Fog99Without() {
        String licker = carrier("x", "licker", 9, 0, 0);
        due("high 98", on(line(98, 0, 10, 0) + licker).send(0, 0, 2), 2);
        due("high 99", on(line(99, 0, 10, 0) + licker).send(0, 0, 2), 3);
    }

    /** "spring (0 to 200; 60 without)". */
    static void promise03Spring0To200() {
        numbers("spring ", 0, 200, ";");
        due("count(4)", on("spring 0;").count(4), 0);
        due("count(4)", on("spring 200;").count(4), 200);
        due("count(4) without", on("noon 5;").count(4), 60);
    }

    /** "noon (1 to 999; 360 without)". */
    static void promise03Noon1To999() {
        numbers("noon ", 1, 999, ";");
        due("count(5)", on("noon 1;").count(5), 1);
        due("count(5)", on("noon 999;").count(5), 999);
        due("count(5) without", on("fog 5;").count(5), 360);
    }

    /** "drink, price, fog, spring, noon .. : once each", "3 .. a second time". */
    static void promise03OnceEach() {
        fault(3, "drink 1;^drink 1;");
        fault(3, "price 1;^price 1;");
        fault(3, "fog 99;^fog 99;");
        fault(3, "spring 60;^spring 60;");
        fault(3, "noon 360;^noon 360;");
        fault(3, "drink thirst;price 1;fog 9;spring 9;noon 9;^drink");
        fault(3, "drink thirst;price 1;fog 9;spring 9;noon 9;^noon 0");
        good("drink thirst;price 1;fog 9;spring 9;noon 9;");
    }

    /** "A NAME is another WORD than station, high, .. , the KINDS, not, and, or". */
    static void promise03ANameIsAnotherWord() {
        for (String word : KEPT_WORDS) {
            fault(1, "station ^" + word + " high 1 fall 1;");
            fault(1, "carrier ^" + word + " goat skin 1 leak 1 thirst 1;");
            fault(1, FOUR + "way ^" + word + " a");
            fault(1, FOUR + "way a ^" + word + " long 1 thorns 1;");
            fault(1, FOUR + "owes ^" + word + " c");
            fault(1, FOUR + "owes c ^" + word + " 1;");
        }
    }

    /** "A NAME is another WORD": the other facts and words near those are NAMES. */
    static void promise03OtherWordsAreNames() {
        for (String word : new String[] {"left", "minute", "debt", "above", "came", "city", "minutes", "stations", "statio", "o", "n"}) {
            good(station(word, 1, 1) + station("a", 1, 1) + way("a", word, 1, 1));
            good(carrier(word, "goat", 1, 1, 1) + carrier("c", "goat", 1, 1, 1) + "owes " + word + " c 1;");
        }
    }

    /** "no two (STATIONS, CARRIERS) are alike", "3 a NAME told already". */
    static void promise03NoTwoNamesAreAlike() {
        fault(3, FOUR + "station ^a");
        fault(3, FOUR + "station ^d");
        fault(3, FOUR + "carrier ^b");
        fault(3, FOUR + "carrier ^c");
        fault(3, station("abcdefgh", 1, 1) + "carrier ^abcdefgh");
        good(station("abcdefgh", 1, 1) + station("abcdefgg", 1, 1) + station("bbcdefgh", 1, 1) + carrier("abcdefg", "goat", 1, 1, 1)
            + carrier("aa", "goat", 1, 1, 1) + carrier("a", "goat", 1, 1, 1) + carrier("aaa", "goat", 1, 1, 1));
    }

    // ---- Promise 3: mountain, an E

    /** "E: TEST { and TEST or or TEST }": no empty one, nothing wanting at its end. */
    static void promise03AnEIsNotEmpty() {
        fault(1, "drink ^;");
        fault(1, "price ^;");
        fault(1, "drink^");
        fault(1, "drink (^);");
        fault(1, "drink not ^;");
        fault(1, "drink 1 and ^;");
        fault(1, "drink ^and 1;");
        fault(1, "drink 1 or ^or 1;");
        fault(1, "drink 1 + ^;");
        fault(1, "drink 1 - ^- 1;");
        fault(1, "drink 1 * ^* 1;");
        fault(1, "drink 1 < ^;");
        fault(1, "drink 1 = ^= 1;");
        fault(1, "drink ^- 1;");
        fault(1, "drink 1 ^1;");
        fault(1, "drink 1 ^left;");
        fault(1, "drink 1 ^not 1;");
        fault(1, "drink 1 ^(1);");
        fault(1, "drink (1) ^(1);");
    }

    /** "TEST: SUM, or SUM < SUM, or SUM = SUM": one < or = at most. */
    static void promise03ATestHasOneComparisonAtMost() {
        fault(1, "drink 1 < 2 ^< 3;");
        fault(1, "drink 1 < 2 ^= 3;");
        fault(1, "drink 1 = 2 ^< 3;");
        fault(1, "drink 1 = 2 ^= 3;");
        fault(1, "drink 1 < 2 + 3 * 4 - not 1 ^< 3;");
        fault(1, "drink (1 < 2 ^= 3);");
        fault(1, "drink 1 and 1 < 2 ^< 3;");
        fault(1, "drink 1 < (2) ^< 3;");
        good("drink 1 < 2 and 2 < 3 or 3 = 4 and 4 = 4;");
        good("drink (1 < 2) < (3 = 4);");
        good("drink 1 < (2 < (3 < 4));");
        good("drink not (1 < 2) = 3;");
    }

    /** "( E )": each ( has its ), each ) its (. */
    static void promise03BracketsInPairs() {
        good("drink (1);");
        good("drink ((((1))));");
        good("drink (1) + (1) + (1) + (1) + (1) + (1) + (1);");
        fault(1, "drink (1^;");
        fault(1, "drink ((1)^;");
        fault(1, "drink 1^);");
        fault(1, "drink (1)^);");
        fault(1, "drink 1 + 1^);");
        fault(1, "drink 1 and not 1^);");
        fault(1, "drink 1 < 2 * (3)^);");
        fault(1, "drink ^);");
        fault(1, "drink (1^");
    }

    /** "no PART lies within 5 of not and ( )", "5 .. not, or a PART, within 5 others". */
    static void promise03NoPartWithinFive() {
        good("drink not not not not 1;");
        good("drink ((((left))));");
        good("drink not (not (1));");
        good("drink ((((1) + 1) * 1) - 1) + not not not not 1 + not (not (1));");
        fault(5, "drink not not not not not ^1;");
        fault(5, "drink not not not not not ^left;");
        fault(5, "drink not not not not not ^not 1;");
        fault(5, "drink not not not not not ^(1);");
        fault(5, "drink (((((^1)))));");
        fault(5, "price (((((^came)))));");
        fault(5, "drink (((((^(1))))));");
        fault(5, "drink (((((^not 1)))));");
        fault(5, "drink not (not (not ^1));");
        fault(5, "drink (1 + (1 * (1 < (1 and (^1)))));");
        fault(5, "drink 1 + not (1 - (not 1 + not not ^1));");
    }

    /** "no PART lies within 5": what was closed does not count. */
    static void promise03ClosedOnesDoNotCount() {
        good("drink not 1 + not 1 + not 1 + not 1 + not 1 + not 1;");
        good("drink not not not (1) + not not not not 1 and ((((1)))) or ((((1))));");
        good("drink not (1) + (not (1)) + ((not (1)));");
        fault(5, "drink not (1) + (not (not (^(1))));");
    }

    /** FAULT 1 stands ahead of FAULT 5: "of the first token .. that is wrong the least". */
    static void promise03WithinFiveTheLeastFault() {
        fault(1, "drink (((((^);");
        fault(1, "drink (((((^;");
        fault(1, "drink (((((^");
        fault(1, "drink (((((^and");
        fault(1, "drink (((((^+");
        fault(1, "drink (((((^above");
        fault(1, "price (((((^left");
        fault(1, "drink (((((^well");
        fault(1, "drink (((((^12345");
        fault(1, "drink (((((^?");
    }

    /** "Facts: in drink thirst, left, high, minute, debt; in price above, came". */
    static void promise03FactsOfItsOwn() {
        for (String fact : new String[] {"thirst", "left", "high", "minute", "debt"}) {
            good("drink " + fact + ";");
            fault(1, "price ^" + fact + ";");
        }
        for (String fact : new String[] {"above", "came"}) {
            good("price " + fact + ";");
            fault(1, "drink ^" + fact + ";");
        }
        for (String word : new String[] {"skin", "leak", "fall", "fog", "noon", "spring", "price", "drink", "goat", "well"}) {
            fault(1, "drink ^" + word + ";");
            fault(1, "price ^" + word + ";");
        }
        good(station("left", 1, 1) + carrier("above", "goat", 1, 1, 1) + "drink left;price above;");
    }

    /** An E as long as the TAPE has room for. */
    static void promise03AnEOfOneThousandSigns() {
        String most = "drink 1" + "+1".repeat(496) + ";";
        due("signs", most.length(), 1000);
        good(most);
        fault(1, "drink 1" + "+1".repeat(496) + "1^");
        fault(1, "drink " + "1+".repeat(497) + "^");
        String nots = " not 1 and".repeat(98);
        good("drink" + nots + " 1;");
    }

    // ---- Promise 3: mountain, FAULTS

    /** "kind + 16 * the place (from 0) of a token". */
    static void promise03ThePlaceFromZero() {
        due("at the first sign", read(new SkinCarriers(), "well"), 1);
        due("behind a blank", read(new SkinCarriers(), " well"), 17);
        due("a kind of 5 at 999", read(new SkinCarriers(), plainOnes(6, 1) + " ".repeat(992 - plainOnes(6, 1).length()) + " carrier"), 5 + 16 * 993);
        due("at the last sign", read(new SkinCarriers(), " ".repeat(999) + "?"), 1 + 16 * 999);
    }

    /** "the end being one at the text's length". */
    static void promise03TheEndIsATokenAtTheTextsLength() {
        fault(1, "noon^");
        fault(1, "noon ^");
        fault(1, "noon 5 \n \n^");
        fault(1, " ".repeat(996) + "noon^");
        due("mountain()", read(new SkinCarriers(), " ".repeat(996) + "noon"), 1 + 16 * 1000);
    }

    /** "of the first token from the left that is wrong the least": the first one from the left. */
    static void promise03TheFirstWrongToken() {
        fault(4, "noon ^0;fog 100;?");
        fault(4, "fog ^100 ? ;");
        fault(1, "noon ^? 0;");
        fault(2, "way ^a a long 0;");
        fault(3, "noon 1;^noon 0;");
        fault(3, FOUR + "way a ^a long 0;");
        fault(3, FOUR + "station ^a high 100;");
        fault(5, plainOnes(6, 1) + "^carrier p ox;");
    }

    /** "Without a FAULT it is the MOUNTAIN from then on: nobody was sent, nothing is above". */
    static void promise03NobodyWasSentOnANewMountain() {
        SkinCarriers x = on(BASE);
        x.send(0, 0, 20);
        due("mountain()", read(x, BASE), 0);
        due("count(3)", x.count(3), 0);
        due("count(4)", x.count(4), 30);
        due("count(6)", x.count(6), 0);
        due("station(1, 2)", x.station(1, 2), 5);
        due("carrier(0, 5)", carrierOf(x, 0, 5), 0);
        due("carrier(0, 6)", carrierOf(x, 0, 6), 0);
        due("drank(0, 0)", x.drank(0, 0), NONE);
        due("rest()", x.rest(), 0);
    }

    /** "nobody was sent": came is 0 on a new MOUNTAIN. */
    static void promise03NobodyCameOnANewMountain() {
        String text = LINE + carrier("x", "plain", 9, 0, 0) + "price came * 9 + above + 1;";
        SkinCarriers x = on(text);
        x.send(0, 0, 9);
        read(x, text);
        x.send(0, 0, 9);
        due("carrier(0, 6)", carrierOf(x, 0, 6), 9);
    }

    /** "SEED 0". */
    static void promise03Seed0OnANewMountain() {
        String text = LINE + carrier("x", "plain", 9, 0, 0) + "fog 0;spring 200;";
        SkinCarriers x = on(text);
        x.seed(9999);
        x.send(0, 0, 1);
        read(x, text);
        // From SEED 0 the DRAWS below 4 are 0, 0, 0, 1.
        for (int i = 0; i < 4; i++) {
            due("send " + i, x.send(0, 0, 1), i < 3 ? 1 : 2);
            x.rest();
        }
    }

    /** "nothing can be undone, no MARK is there". */
    static void promise03NothingToUndoAndNoMarkOnANewMountain() {
        SkinCarriers x = on(BASE);
        x.patch(0, true);
        x.owe(0, 1, 7);
        for (int mark = 0; mark < 4; mark++) {
            x.mark(mark, false);
        }
        due("mountain()", read(x, BASE), 0);
        due("count(7)", x.count(7), 0);
        due("undo()", x.undo(), false);
        due("carrier(0, 4)", carrierOf(x, 0, 4), 0);
        due("owes(0, 1)", x.owes(0, 1), 0);
        due("owes(0, 2)", x.owes(0, 2), 5);
        for (int mark = 0; mark < 4; mark++) {
            due("mark(" + mark + ", true)", x.mark(mark, true), false);
        }
    }

    /** "it is the MOUNTAIN from then on": what the old one told is gone, the empty one's too. */
    static void promise03NothingOfTheOldMountain() {
        SkinCarriers x = on(BASE + "drink 9;price 9;");
        due("mountain()", read(x, LINE + carrier("x", "licker", 60, 0, 2) + carrier("y", "plain", 9, 0, 0)), 0);
        due("count(1)", x.count(1), 2);
        due("way(0, 2, 0)", x.way(0, 2, 0), NONE);
        due("owes(0, 1)", x.owes(0, 1), 0);
        due("paths()", x.paths(), 1);
        due("count(4)", x.count(4), 60);
        due("count(5)", x.count(5), 360);
        due("send without fog, by the thirst", x.send(0, 0, 20), 18);
        due("carrier(0, 6) at 1", carrierOf(x, 0, 6), 18);
        due("mountain() of nothing", x.mountain(), 0);
        due("count(0)", x.count(0), 0);
        due("count(2)", x.count(2), 0);
        due("paths()", x.paths(), 0);
        due("plan(-1)", x.plan(NONE), 0);
        due("plan(0)", x.plan(0), -2);
    }

    /** "it is the MOUNTAIN from then on": PLAN and RELAY, too. */
    static void promise03PlanAndRelayOfTheNewMountain() {
        SkinCarriers x = on(LINE + carrier("x", "plain", 9, 0, 0));
        due("plan(-1)", x.plan(NONE), 9);
        due("relay(9, 0)", x.relay(9, 0), 9);
        read(x, LINE + carrier("x", "plain", 8, 0, 0));
        due("plan(-1)", x.plan(NONE), 8);
        due("relay(9, 0)", x.relay(9, 0), 8);
    }

    /** "or its FAULT (all stays then)". */
    static void promise03AllStaysWithAFault() {
        SkinCarriers x = on(BASE + "drink 2;price 3;");
        x.patch(1, true);
        x.owe(1, 0, 4);
        x.seed(5);
        x.mark(2, false);
        x.send(0, 0, 20);
        int above = x.count(3);
        int fall = x.station(1, 2);
        String other = station("z", 1, 1) + station("y", 1, 1) + way("z", "y", 1, 1) + carrier("k", "mule", 1, 1, 1)
            + carrier("l", "mule", 1, 1, 1) + "owes k l 9;drink 7;price 7;fog 7;spring 7;noon 7;";
        due("mountain() with a FAULT at its end", read(x, other + "noon"), 3 + 16 * other.length());
        int[] counts = {3, 3, 3, above, 10, 120, 1, 2, 0};
        for (int what = 0; what < counts.length; what++) {
            due("count(" + what + ")", x.count(what), counts[what]);
        }
        due("station(1, 0)", x.station(1, 0), 40);
        due("station(1, 2)", x.station(1, 2), fall);
        due("way(0, 1, 0)", x.way(0, 1, 0), 30);
        due("carrier(0, 0)", carrierOf(x, 0, 0), 0);
        due("carrier(0, 5)", carrierOf(x, 0, 5), 1);
        due("carrier(0, 6)", carrierOf(x, 0, 6), 3 * above);
        due("carrier(1, 4)", carrierOf(x, 1, 4), 1);
        due("owes(0, 1)", x.owes(0, 1), 0);
        due("owes(0, 2)", x.owes(0, 2), 5);
        due("owes(1, 0)", x.owes(1, 0), 4);
        due("paths()", x.paths(), 2);
        due("drank(0, 2)", x.drank(0, 2), 2);
        due("trip(0, 0, 20, 2)", x.trip(0, 0, 20, 2), 2);
        due("undo()", x.undo(), true);
        due("mark(2, true)", x.mark(2, true), true);
        due("mark(1, true)", x.mark(1, true), false);
    }

    /** "all stays then": the DRAWS go on. */
    static void promise03TheDrawsStayWithAFault() {
        SkinCarriers x = on(LINE + carrier("x", "plain", 9, 0, 0) + "fog 0;spring 200;");
        for (int i = 0; i < 3; i++) {
            x.send(0, 0, 1);
            x.rest();
        }
        due("mountain() with a FAULT", read(x, "?"), 1);
        due("the fourth DRAW", x.send(0, 0, 1), 2);
    }

    /** Nothing of an E with a FAULT goes into the next one. */
    static void promise03NothingOfAFaultyE() {
        String[] faulty = {"drink not not not not not", "drink ((((1", "drink 1 <", "drink not", "drink 7 and 7 < 7 + 7 *", "drink (1 or (2 * not (3"};
        for (String text : faulty) {
            SkinCarriers x = new SkinCarriers();
            due("mountain() of <" + text + ">", read(x, text), 1 + 16 * text.length());
            due("mountain() behind it", read(x, LINE + plainOnes(1, 60) + "drink 1 + (5 < 2 * ((3))) * 20;price 3 = not not not not 4;"), 0);
            due("the E behind it", x.trip(0, 0, 60, 2), 21);
            due("a ) too many behind it", read(x, "drink 1);"), 1 + 16 * 7);
        }
    }

    /** Nothing of a text with a FAULT goes into the next one. */
    static void promise03NothingOfAFaultyText() {
        SkinCarriers x = new SkinCarriers();
        due("mountain() with a FAULT", read(x, FOUR + way("a", "b", 1, 1) + "owes c d 1;drink 1;price 1;fog 1;spring 1;noon 1;?"),
            1 + 16 * (FOUR + way("a", "b", 1, 1) + "owes c d 1;drink 1;price 1;fog 1;spring 1;noon 1;").length());
        due("the same without it", read(x, FOUR + way("b", "a", 2, 2) + "owes c d 2;drink 2;price 2;fog 2;spring 2;noon 2;"), 0);
        due("way(0, 1, 0)", x.way(0, 1, 0), 2);
        due("owes(0, 1)", x.owes(0, 1), 2);
        due("count(1)", x.count(1), 1);
        due("mountain() with a FAULT", read(x, stations(7) + "?"), 1 + 16 * stations(7).length());
        due("one STATION", read(x, station("sa", 1, 1)), 0);
        due("count(0)", x.count(0), 1);
        due("count(1)", x.count(1), 0);
        due("count(4)", x.count(4), 60);
    }
}
