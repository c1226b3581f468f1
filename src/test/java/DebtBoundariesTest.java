/**
 * Promises 17 to 26: a test of its own for each sentence on debts, SETTLED, MISSED, odds, patches, UNDO, MARKS and count
 * that names a boundary case. The sentence stands above its test.
 */
public final class DebtBoundariesTest extends Checks {
    public static void main(String[] args) {
        runAll(DebtBoundariesTest.class);
    }

    /** Plain CARRIERS of these thirsts. */
    private static String thirsts(int... thirsts) {
        StringBuilder text = new StringBuilder();
        for (int i = 0; i < thirsts.length; i++) {
            text.append(carrier(String.valueOf((char) ('p' + i)), "plain", 9, 0, thirsts[i]));
        }
        return text.toString();
    }

    // ---- Promise 17: owe

    /** "so much (0 to 99)". */
    static void promise17From0To99() {
        SkinCarriers x = on(plainOnes(2, 9));
        due("owe(0, 1, 99)", x.owe(0, 1, 99), true);
        due("owes(0, 1)", x.owes(0, 1), 99);
        for (int wrong : new int[] {-1, 100, LEAST, MOST}) {
            due("owe(0, 1, " + wrong + ")", x.owe(0, 1, wrong), false);
        }
        due("owes(0, 1)", x.owes(0, 1), 99);
        due("owe(0, 1, 0)", x.owe(0, 1, 0), true);
        due("owes(0, 1)", x.owes(0, 1), 0);
        due("owe(0, 1, 1)", x.owe(0, 1, 1), true);
    }

    /** "false: others": nobody such, the same. */
    static void promise17Others() {
        SkinCarriers x = on(plainOnes(3, 9));
        for (int wrong : new int[] {-1, 3, 6, LEAST, MOST}) {
            due("owe(" + wrong + ", 0, 1)", x.owe(wrong, 0, 1), false);
            due("owe(0, " + wrong + ", 1)", x.owe(0, wrong, 1), false);
            due("owe(" + wrong + ", " + wrong + ", 1)", x.owe(wrong, wrong, 1), false);
        }
        for (int c = 0; c < 3; c++) {
            due("owe to itself", x.owe(c, c, 1), false);
            due("owe nothing to itself", x.owe(c, c, 0), false);
        }
        due("count(7)", x.count(7), 0);
        due("owe(0, 2, 1)", x.owe(0, 2, 1), true);
        due("owe(2, 0, 1)", x.owe(2, 0, 1), true);
    }

    /** "false: .. it is so". */
    static void promise17ItIsSo() {
        SkinCarriers x = on(plainOnes(2, 9) + "owes p q 5;");
        due("owe(0, 1, 5), as told", x.owe(0, 1, 5), false);
        due("owe(1, 0, 0), as nothing was", x.owe(1, 0, 0), false);
        due("count(7)", x.count(7), 0);
        due("owe(0, 1, 6)", x.owe(0, 1, 6), true);
        due("owe(0, 1, 6)", x.owe(0, 1, 6), false);
        due("owe(1, 0, 6)", x.owe(1, 0, 6), true);
        due("count(7)", x.count(7), 2);
    }

    /** "owes so much": in place of what it owed, not on top of it. */
    static void promise17InPlaceOfWhatItOwed() {
        SkinCarriers x = on(plainOnes(2, 9) + "owes p q 99;");
        due("owe(0, 1, 98)", x.owe(0, 1, 98), true);
        due("owes(0, 1)", x.owes(0, 1), 98);
        due("owes(1, 0)", x.owes(1, 0), 0);
    }

    // ---- Promise 18: owes

    /** "NONE: others". */
    static void promise18Others() {
        SkinCarriers x = on(plainOnes(3, 9) + "owes r p 99;");
        for (int wrong : new int[] {-1, 3, 6, LEAST, MOST}) {
            due("owes(" + wrong + ", 0)", x.owes(wrong, 0), NONE);
            due("owes(0, " + wrong + ")", x.owes(0, wrong), NONE);
        }
        due("owes(2, 0)", x.owes(2, 0), 99);
        due("owes(0, 2)", x.owes(0, 2), 0);
    }

    /** "NONE: .. the same". */
    static void promise18TheSame() {
        SkinCarriers x = on(plainOnes(6, 9));
        for (int c = 0; c < 6; c++) {
            due("owes(" + c + ", " + c + ")", x.owes(c, c), NONE);
        }
        due("owes(5, 4)", x.owes(5, 4), 0);
    }

    // ---- Promise 19: debt

    /** "NoSuchElementException: none such". */
    static void promise19NoneSuch() {
        SkinCarriers x = on(plainOnes(3, 9));
        for (int wrong : new int[] {-1, 3, 6, LEAST, MOST}) {
            due("debt(" + wrong + ")", debtOf(x, wrong), THROWN);
        }
        due("debt(2)", debtOf(x, 2), 0);
    }

    /** "(below 0: others owe more to it)". */
    static void promise19Below0() {
        SkinCarriers x = on(plainOnes(2, 9) + "owes p q 5;owes q p 6;");
        due("debt(0)", debtOf(x, 0), -1);
        due("debt(1)", debtOf(x, 1), 1);
        x.owe(0, 1, 6);
        due("debt(0)", debtOf(x, 0), 0);
        x.owe(0, 1, 7);
        due("debt(0)", debtOf(x, 0), 1);
        due("debt(1)", debtOf(x, 1), -1);
    }

    /** The most that one owes, and is owed: 99 by five. */
    static void promise19TheMost() {
        SkinCarriers x = on(plainOnes(6, 9));
        for (int c = 0; c < 5; c++) {
            x.owe(5, c, 99);
        }
        due("debt(5)", debtOf(x, 5), 495);
        due("debt(0)", debtOf(x, 0), -99);
        for (int c = 0; c < 5; c++) {
            x.owe(5, c, 0);
            x.owe(c, 5, 99);
        }
        due("debt(5)", debtOf(x, 5), -495);
        due("debt(4)", debtOf(x, 4), 99);
    }

    // ---- Promise 20: settled

    /** "the fewest payments": none where nobody owes, or all is even. */
    static void promise20None() {
        due("nobody", new SkinCarriers().settled(), 0);
        due("one", on(plainOnes(1, 9)).settled(), 0);
        due("six, no debts", on(plainOnes(6, 9)).settled(), 0);
        due("two even ones", on(plainOnes(2, 9) + "owes p q 5;owes q p 5;").settled(), 0);
        due("a ring", on(plainOnes(3, 9) + "owes p q 99;owes q r 99;owes r p 99;").settled(), 0);
    }

    /** "Each CARRIER's balance is its debt": who is even pays nothing. */
    static void promise20Balances() {
        due("a chain", on(plainOnes(3, 9) + "owes p q 5;owes q r 5;").settled(), 1);
        due("a chain that grows", on(plainOnes(3, 9) + "owes p q 5;owes q r 6;").settled(), 2);
        due("two uneven ones", on(plainOnes(2, 9) + "owes p q 5;owes q p 6;").settled(), 1);
        due("a ring that is uneven by one", on(plainOnes(3, 9) + "owes p q 99;owes q r 99;owes r p 98;").settled(), 1);
    }

    /** "the fewest": groups that settle within themselves, as many as can be. */
    static void promise20TheFewest() {
        due("three pairs", on(plainOnes(6, 9) + "owes p q 1;owes r s 2;owes t u 3;").settled(), 3);
        due("two threes", on(plainOnes(6, 9) + "owes p r 3;owes q r 4;owes s u 5;owes t u 8;").settled(), 4);
        due("one to five", on(plainOnes(6, 9) + "owes p q 10;owes p r 10;owes p s 10;owes p t 10;owes p u 10;").settled(), 5);
        due("five to one", on(plainOnes(6, 9) + "owes q p 99;owes r p 99;owes s p 99;owes t p 99;owes u p 99;").settled(), 5);
        // Balances 5, -2, -3, 4, -4: the greatest against the greatest would take four.
        due("a three and a pair", on(plainOnes(5, 9) + "owes p t 4;owes p r 1;owes s q 2;owes s r 2;").settled(), 3);
        due("all even but two", on(plainOnes(6, 9) + "owes p u 1;owes q r 5;owes r q 5;").settled(), 1);
    }

    /** SETTLED is of the debts as they are now. */
    static void promise20AsTheyAreNow() {
        SkinCarriers x = on(plainOnes(3, 9));
        x.owe(0, 1, 5);
        due("settled()", x.settled(), 1);
        x.owe(0, 2, 5);
        due("settled()", x.settled(), 2);
        x.undo();
        due("settled()", x.settled(), 1);
        x.owe(1, 0, 5);
        due("settled()", x.settled(), 0);
    }

    // ---- Promise 21: missed

    private static void missed(SkinCarriers x, int mouthfuls, int sets, int inAll) {
        due("missed(" + mouthfuls + ", 0)", x.missed(mouthfuls, 0), sets);
        due("missed(" + mouthfuls + ", 1)", x.missed(mouthfuls, 1), inAll);
    }

    /** "NONE: others (mouthfuls 0 to 99)". */
    static void promise21Others() {
        SkinCarriers x = on(thirsts(1, 2));
        missed(x, 0, 1, 0);
        missed(x, 99, 0, 0);
        for (int wrong : new int[] {-1, 100, LEAST, MOST}) {
            missed(x, wrong, NONE, NONE);
        }
        for (int wrong : new int[] {-1, 2, LEAST, MOST}) {
            due("missed(0, " + wrong + ")", x.missed(0, wrong), NONE);
        }
    }

    /** "those in all as bits (0 if there is none)": no set, or nobody in all. */
    static void promise21NoneInAll() {
        SkinCarriers x = on(thirsts(2, 2, 3));
        missed(x, 1, 0, 0);
        missed(x, 8, 0, 0);
        missed(x, 0, 1, 0);
        missed(x, 2, 2, 0);
        missed(x, 5, 2, 4);
        missed(x, 4, 1, 3);
        missed(x, 7, 1, 7);
    }

    /** "sets that drank just so much": the empty one and the one of all, too. */
    static void promise21TheEmptyAndTheFullSet() {
        SkinCarriers x = on(thirsts(9, 9, 9, 9, 9, 9));
        missed(x, 0, 1, 0);
        missed(x, 9, 6, 0);
        missed(x, 27, 20, 0);
        missed(x, 45, 6, 0);
        missed(x, 53, 0, 0);
        missed(x, 54, 1, 63);
        missed(x, 55, 0, 0);
        missed(new SkinCarriers(), 0, 1, 0);
        missed(new SkinCarriers(), 1, 0, 0);
        missed(on(thirsts(5)), 5, 1, 1);
    }

    /** "each CARRIER has drunk its thirst or nothing": of thirst 0 it is in a set or not. */
    static void promise21Thirst0() {
        missed(on(thirsts(0)), 0, 2, 0);
        missed(on(thirsts(0, 5)), 5, 2, 2);
        missed(on(thirsts(0, 0, 0, 0, 0, 0)), 0, 64, 0);
        missed(on(thirsts(0, 0, 0, 0, 0, 0)), 1, 0, 0);
    }

    // ---- Promise 22: odds

    private static void odds(SkinCarriers x, int mouthfuls, int carrier, int above, int below) {
        due("odds(" + mouthfuls + ", " + carrier + ", 0)", x.odds(mouthfuls, carrier, 0), above);
        due("odds(" + mouthfuls + ", " + carrier + ", 1)", x.odds(mouthfuls, carrier, 1), below);
    }

    /** "NONE: others". */
    static void promise22Others() {
        SkinCarriers x = on(thirsts(1, 2));
        for (int wrong : new int[] {-1, 100, LEAST, MOST}) {
            odds(x, wrong, 0, NONE, NONE);
        }
        for (int wrong : new int[] {-1, 2, 6, LEAST, MOST}) {
            odds(x, 1, wrong, NONE, NONE);
        }
        for (int wrong : new int[] {-1, 2, LEAST, MOST}) {
            due("odds(1, 0, " + wrong + ")", x.odds(1, 0, wrong), NONE);
        }
        odds(x, 1, 1, 0, 1);
    }

    /** "NONE: .. no set". */
    static void promise22NoSet() {
        SkinCarriers x = on(thirsts(2, 2, 3));
        odds(x, 1, 0, NONE, NONE);
        odds(x, 8, 2, NONE, NONE);
        odds(x, 99, 0, NONE, NONE);
        odds(new SkinCarriers(), 0, 0, NONE, NONE);
    }

    /** "in lowest terms": nobody's odds are 0 to 1, sure ones 1 to 1. */
    static void promise22InLowestTerms() {
        SkinCarriers x = on(thirsts(9, 9, 9, 9, 9, 9));
        odds(x, 0, 0, 0, 1);
        odds(x, 9, 5, 1, 6);
        odds(x, 18, 0, 1, 3);
        odds(x, 27, 3, 1, 2);
        odds(x, 36, 0, 2, 3);
        odds(x, 45, 0, 5, 6);
        odds(x, 54, 5, 1, 1);
        SkinCarriers y = on(thirsts(2, 2, 3, 0));
        odds(y, 5, 2, 1, 1);
        odds(y, 5, 0, 1, 2);
        odds(y, 5, 3, 1, 2);
        odds(y, 2, 2, 0, 1);
    }

    // ---- Promise 23: patch

    /** "false: others". */
    static void promise23Others() {
        SkinCarriers x = on(plainOnes(3, 9));
        for (int wrong : new int[] {-1, 3, 6, LEAST, MOST}) {
            due("patch(" + wrong + ", true)", x.patch(wrong, true), false);
            due("patch(" + wrong + ", false)", x.patch(wrong, false), false);
        }
        due("count(7)", x.count(7), 0);
        due("patch(2, true)", x.patch(2, true), true);
    }

    /** "false: .. it is so": a patched KIND is not PATCHED by hand. */
    static void promise23ItIsSo() {
        SkinCarriers x = on(plainOnes(1, 9) + carrier("x", "patched", 9, 0, 0));
        for (int c = 0; c < 2; c++) {
            due("patch(" + c + ", false)", x.patch(c, false), false);
            due("patch(" + c + ", true)", x.patch(c, true), true);
            due("patch(" + c + ", true)", x.patch(c, true), false);
            due("patch(" + c + ", false)", x.patch(c, false), true);
            due("patch(" + c + ", false)", x.patch(c, false), false);
        }
        due("count(7)", x.count(7), 4);
    }

    // ---- Promise 24: undo

    /** "false: nothing can be". */
    static void promise24NothingCanBe() {
        due("undo() of a new object", new SkinCarriers().undo(), false);
        SkinCarriers x = on(plainOnes(2, 9) + "owes p q 5;");
        due("undo() of what was told", x.undo(), false);
        x.patch(0, true);
        due("undo()", x.undo(), true);
        due("undo() again", x.undo(), false);
        due("carrier(0, 4)", carrierOf(x, 0, 4), 0);
        due("owes(0, 1)", x.owes(0, 1), 5);
    }

    /** "UNDO: patches, debts told by hand": refused calls are none of these. */
    static void promise24NotOfRefusedCalls() {
        SkinCarriers x = on(plainOnes(2, 9));
        x.patch(0, true);
        x.patch(0, true);
        x.patch(1, false);
        x.patch(2, true);
        x.owe(0, 1, 0);
        x.owe(0, 0, 5);
        x.owe(0, 1, 100);
        due("count(7)", x.count(7), 1);
        due("undo()", x.undo(), true);
        due("carrier(0, 4)", carrierOf(x, 0, 4), 0);
        due("undo()", x.undo(), false);
    }

    /** "UNDO: patches, debts told by hand": nothing else. */
    static void promise24NothingElse() {
        SkinCarriers x = on(LINE + plainOnes(2, 9));
        x.send(0, 0, 9);
        x.seed(7);
        x.rest();
        x.mark(0, false);
        lay(x, "fog");
        due("count(7)", x.count(7), 0);
        due("undo()", x.undo(), false);
    }

    /** "the last 20": the 21st pushes the first one out. */
    static void promise24TheLast20() {
        SkinCarriers x = on(plainOnes(2, 9));
        for (int i = 1; i <= 19; i++) {
            x.owe(0, 1, 5 * i);
        }
        due("count(7)", x.count(7), 19);
        x.patch(0, true);
        due("count(7)", x.count(7), 20);
        x.owe(0, 1, 3);
        due("count(7)", x.count(7), 20);
        x.patch(1, true);
        due("count(7)", x.count(7), 20);
        due("undo()", x.undo(), true);
        due("carrier(1, 4)", carrierOf(x, 1, 4), 0);
        due("undo()", x.undo(), true);
        due("owes(0, 1)", x.owes(0, 1), 95);
        due("undo()", x.undo(), true);
        due("carrier(0, 4)", carrierOf(x, 0, 4), 0);
        for (int i = 18; i >= 2; i--) {
            due("count(7)", x.count(7), i - 1);
            due("undo()", x.undo(), true);
            due("owes(0, 1)", x.owes(0, 1), 5 * i);
        }
        due("count(7)", x.count(7), 0);
        due("undo()", x.undo(), false);
        due("owes(0, 1), what can't be undone any more", x.owes(0, 1), 10);
    }

    /** "one by one": the last one first. */
    static void promise24OneByOne() {
        SkinCarriers x = on(plainOnes(3, 9) + "owes p q 5;");
        x.owe(0, 1, 6);
        x.patch(2, true);
        x.owe(0, 1, 0);
        x.patch(2, false);
        int[][] rows = {{0, 1}, {6, 1}, {6, 0}, {5, 0}};
        for (int[] row : rows) {
            due("undo()", x.undo(), true);
            due("owes(0, 1)", x.owes(0, 1), row[0]);
            due("carrier(2, 4)", carrierOf(x, 2, 4), row[1]);
        }
        due("undo()", x.undo(), false);
        due("owe(0, 1, 5), it is so again", x.owe(0, 1, 5), false);
        due("patch(2, false), it is so again", x.patch(2, false), false);
    }

    /** "patches, debts": of each CARRIER and each pair, and of no other one. */
    static void promise24OfEachPair() {
        for (int a = 0; a < 6; a++) {
            SkinCarriers x = on(plainOnes(6, 9));
            for (int b = 0; b < 6; b++) {
                x.owe(a, b, 10 + b);
            }
            x.patch(a, true);
            for (int b = 0; b < 6; b++) {
                x.owe(b, a, 20 + b);
            }
            for (int i = 0; i < 5; i++) {
                due("undo()", x.undo(), true);
            }
            due("carrier(" + a + ", 4)", carrierOf(x, a, 4), 1);
            due("undo()", x.undo(), true);
            for (int b = 0; b < 6; b++) {
                due("carrier(" + b + ", 4)", carrierOf(x, b, 4), 0);
                due("owes(" + a + ", " + b + ")", x.owes(a, b), a == b ? NONE : 10 + b);
                due("owes(" + b + ", " + a + ")", x.owes(b, a), a == b ? NONE : 0);
            }
            for (int i = 0; i < 5; i++) {
                due("undo()", x.undo(), true);
            }
            for (int b = 0; b < 6; b++) {
                due("owes(" + a + ", " + b + ")", x.owes(a, b), a == b ? NONE : 0);
            }
            due("undo()", x.undo(), false);
        }
    }

    /** What was undone can't be undone: a new one comes in its place. */
    static void promise24NotOfUndo() {
        SkinCarriers x = on(plainOnes(2, 9));
        x.owe(0, 1, 1);
        x.owe(0, 1, 2);
        x.undo();
        x.owe(0, 1, 9);
        due("count(7)", x.count(7), 2);
        x.undo();
        due("owes(0, 1)", x.owes(0, 1), 1);
        x.undo();
        due("owes(0, 1)", x.owes(0, 1), 0);
        due("undo()", x.undo(), false);
    }

    // ---- Promise 25: mark

    /** "false: none such": "MARKS 0 to 3". */
    static void promise25NoneSuch() {
        SkinCarriers x = on(plainOnes(1, 9));
        for (int wrong : new int[] {-1, 4, LEAST, MOST}) {
            due("mark(" + wrong + ", false)", x.mark(wrong, false), false);
            due("mark(" + wrong + ", true)", x.mark(wrong, true), false);
        }
        for (int mark = 0; mark < 4; mark++) {
            due("mark(" + mark + ", false)", x.mark(mark, false), true);
            due("mark(" + mark + ", true)", x.mark(mark, true), true);
        }
    }

    /** "false: .. nothing is on it (back)": a refused one changes nothing. */
    static void promise25NothingIsOnIt() {
        SkinCarriers x = on(plainOnes(2, 9));
        x.patch(0, true);
        x.mark(1, false);
        for (int mark : new int[] {0, 2, 3}) {
            due("mark(" + mark + ", true)", x.mark(mark, true), false);
        }
        due("count(7)", x.count(7), 1);
        due("undo()", x.undo(), true);
        due("mark(1, true)", x.mark(1, true), true);
        due("carrier(0, 4)", carrierOf(x, 0, 4), 1);
    }

    /** A MARK can be laid again, and gone back to again. */
    static void promise25AgainAndAgain() {
        SkinCarriers x = on(plainOnes(2, 9));
        for (int mark = 0; mark < 4; mark++) {
            x.owe(0, 1, 10 + mark);
            x.mark(mark, false);
        }
        for (int mark = 3; mark >= 0; mark--) {
            due("mark(" + mark + ", true)", x.mark(mark, true), true);
            due("owes(0, 1)", x.owes(0, 1), 10 + mark);
        }
        x.owe(0, 1, 77);
        x.mark(2, false);
        x.owe(0, 1, 78);
        for (int i = 0; i < 3; i++) {
            due("mark(2, true)", x.mark(2, true), true);
            due("owes(0, 1), of the one laid last", x.owes(0, 1), 77);
            x.owe(0, 1, i);
        }
        due("mark(3, true)", x.mark(3, true), true);
        due("owes(0, 1)", x.owes(0, 1), 13);
    }

    /** "hold all but the TAPE". */
    static void promise25AllButTheTape() {
        SkinCarriers x = on(LINE + plainOnes(1, 9));
        lay(x, "noon");
        x.mark(0, false);
        lay(x, " 5");
        x.mark(0, true);
        due("count(8)", x.count(8), 6);
        lay(x, ";");
        due("mountain()", x.mountain(), 0);
        due("count(5)", x.count(5), 5);
        due("count(8)", x.count(8), 0);
    }

    /** "hold all": what is above, who was SENT and PAID, the spring, falls and the book. */
    static void promise25HoldsTheDay() {
        SkinCarriers x = on(line(60, 5, 10, 0) + carrier("x", "plain", 9, 0, 2) + carrier("y", "plain", 9, 0, 3) + "price 2;");
        x.mark(0, false);
        x.send(1, 0, 7);
        x.mark(1, false);
        x.send(0, 0, 9);
        x.rest();
        x.send(0, 0, 1);
        x.mark(1, true);
        due("count(3)", x.count(3), 6);
        due("count(4)", x.count(4), 53);
        due("count(6)", x.count(6), 1);
        due("station(1, 2)", x.station(1, 2), 3);
        due("carrier(0, 5)", carrierOf(x, 0, 5), 0);
        due("carrier(0, 6)", carrierOf(x, 0, 6), 0);
        due("carrier(1, 5)", carrierOf(x, 1, 5), 1);
        due("carrier(1, 6)", carrierOf(x, 1, 6), 12);
        due("drank(0, 0)", x.drank(0, 0), 1);
        due("drank(0, 1)", x.drank(0, 1), 1);
        due("drank(0, 2)", x.drank(0, 2), 3);
        x.mark(0, true);
        due("count(3)", x.count(3), 0);
        due("count(4)", x.count(4), 60);
        due("count(6)", x.count(6), 0);
        due("station(1, 2)", x.station(1, 2), 5);
        due("carrier(1, 5)", carrierOf(x, 1, 5), 0);
        due("carrier(1, 6)", carrierOf(x, 1, 6), 0);
        due("drank(0, 0)", x.drank(0, 0), NONE);
    }

    /** "hold all": the fullest spring, and the emptiest. */
    static void promise25HoldsTheSpring() {
        SkinCarriers x = on(LINE + carrier("m", "mule", 60, 0, 1) + carrier("n", "mule", 60, 0, 1) + "spring 200;");
        x.mark(0, false);
        x.send(0, 0, 120);
        x.mark(1, false);
        x.send(1, 0, 80);
        x.mark(2, false);
        x.rest();
        int[] springs = {200, 80, 0};
        int[] aboves = {0, 119, 198};
        for (int mark = 0; mark < 3; mark++) {
            due("mark(" + mark + ", true)", x.mark(mark, true), true);
            due("count(4)", x.count(4), springs[mark]);
            due("count(3)", x.count(3), aboves[mark]);
            due("count(6)", x.count(6), mark);
        }
    }

    /** "hold all": more drinkings than came. */
    static void promise25HoldsALongBook() {
        StringBuilder text = new StringBuilder();
        for (char name = 'a'; name <= 'g'; name++) {
            text.append(station(String.valueOf(name), 0, 0));
        }
        for (String pair : new String[] {"ab", "bc", "cd", "dg", "ae", "ef", "fg"}) {
            text.append(way(pair.substring(0, 1), pair.substring(1), 10, 0));
        }
        SkinCarriers x = on(text + carrier("x", "plain", 9, 0, 1) + carrier("y", "plain", 9, 0, 2));
        x.send(1, 0, 9);
        x.mark(0, false);
        x.rest();
        x.send(0, 1, 9);
        due("drank(1, 1)", x.drank(1, 1), 5);
        x.mark(0, true);
        due("count(6)", x.count(6), 3);
        for (int i = 0; i < 3; i++) {
            due("drank(" + i + ", 0)", x.drank(i, 0), 1);
            due("drank(" + i + ", 1)", x.drank(i, 1), 1 + i);
            due("drank(" + i + ", 2)", x.drank(i, 2), 2);
        }
    }

    /** "hold all": where and how much, of a book as long. */
    static void promise25HoldsTheBook() {
        SkinCarriers x = on(station("a", 0, 0) + station("b", 0, 0) + station("d", 0, 0) + station("c", 0, 0)
            + way("a", "b", 10, 0) + way("b", "c", 10, 0) + way("a", "d", 10, 0) + way("d", "c", 10, 0)
            + carrier("x", "plain", 9, 0, 2) + carrier("y", "plain", 9, 0, 3));
        x.send(0, 0, 9);
        x.mark(0, false);
        x.rest();
        x.send(1, 1, 9);
        int[] rows = {1, 2, 3};
        for (int what = 0; what < 3; what++) {
            due("drank(0, " + what + ")", x.drank(0, what), rows[what]);
        }
        x.mark(0, true);
        int[] back = {0, 1, 2};
        for (int what = 0; what < 3; what++) {
            due("drank(0, " + what + ")", x.drank(0, what), back[what]);
        }
    }

    /** "hold all": how many came. */
    static void promise25HoldsWhoCame() {
        SkinCarriers x = on(LINE + carrier("x", "plain", 9, 0, 1) + plainOnes(3, 9) + "price came;");
        x.send(0, 0, 9);
        x.send(3, 0, 5);
        x.mark(0, false);
        x.send(1, 0, 1);
        x.mark(0, true);
        due("count(3)", x.count(3), 13);
        due("count(6)", x.count(6), 1);
        x.send(2, 0, 1);
        due("carrier(2, 6), two came", carrierOf(x, 2, 6), 2);
    }

    /** "hold all": g. */
    static void promise25HoldsG() {
        SkinCarriers x = on(LINE + plainOnes(1, 9) + "fog 0;");
        for (int i = 0; i < 4; i++) {
            x.send(0, 0, 1);
            x.rest();
        }
        // From SEED 0 the DRAWS below 4 are 0, 0, 0, 1, 2, 3.
        x.mark(3, false);
        for (int i = 0; i < 3; i++) {
            due("the fifth DRAW", x.send(0, 0, 1), 3);
            x.rest();
            due("the sixth DRAW", x.send(0, 0, 1), 4);
            x.seed(i);
            x.mark(3, true);
        }
    }

    /** "hold all": debts and patches. */
    static void promise25HoldsDebtsAndPatches() {
        SkinCarriers x = on(plainOnes(2, 9) + "owes p q 5;");
        x.mark(0, false);
        x.patch(0, true);
        x.owe(1, 0, 7);
        x.mark(1, false);
        x.patch(0, false);
        x.patch(1, true);
        x.owe(0, 1, 0);
        x.mark(1, true);
        due("carrier(0, 4)", carrierOf(x, 0, 4), 1);
        due("carrier(1, 4)", carrierOf(x, 1, 4), 0);
        due("owes(0, 1)", x.owes(0, 1), 5);
        due("owes(1, 0)", x.owes(1, 0), 7);
        x.mark(0, true);
        due("carrier(0, 4)", carrierOf(x, 0, 4), 0);
        due("owes(1, 0)", x.owes(1, 0), 0);
    }

    /** "(nothing can be undone when one is gone back to)": laying one leaves what can be. */
    static void promise25NothingCanBeUndone() {
        SkinCarriers x = on(plainOnes(2, 9));
        x.owe(0, 1, 7);
        x.mark(0, false);
        due("count(7)", x.count(7), 1);
        x.owe(0, 1, 8);
        due("undo()", x.undo(), true);
        due("count(7)", x.count(7), 1);
        x.mark(0, true);
        due("count(7)", x.count(7), 0);
        due("undo()", x.undo(), false);
        due("owes(0, 1)", x.owes(0, 1), 7);
        x.owe(0, 1, 9);
        due("undo()", x.undo(), true);
        due("owes(0, 1)", x.owes(0, 1), 7);
        due("undo()", x.undo(), false);
    }

    /** A MARK of an object without a MOUNTAIN; the first MOUNTAIN takes it away. */
    static void promise25WithoutAMountain() {
        SkinCarriers x = new SkinCarriers();
        due("mark(0, false)", x.mark(0, false), true);
        due("mark(0, true)", x.mark(0, true), true);
        due("count(4)", x.count(4), 60);
        due("mountain() of the empty TAPE", x.mountain(), 0);
        due("mark(0, true)", x.mark(0, true), false);
    }

    // ---- Promise 26: count

    /** "NONE for another what". */
    static void promise26AnotherWhat() {
        SkinCarriers x = on(BASE);
        for (int wrong : new int[] {-1, 9, 10, LEAST, MOST}) {
            due("count(" + wrong + ")", x.count(wrong), NONE);
            due("count(" + wrong + ") of a new object", new SkinCarriers().count(wrong), NONE);
        }
    }

    /** Each what counts its own. */
    static void promise26EachCount() {
        SkinCarriers x = on(BASE);
        x.send(0, 0, 20);
        x.patch(0, true);
        x.owe(0, 1, 3);
        lay(x, "\n ");
        int[] counts = {3, 3, 3, 15, 10, 120, 1, 2, 2};
        for (int what = 0; what < counts.length; what++) {
            due("count(" + what + ")", x.count(what), counts[what]);
        }
    }
}
