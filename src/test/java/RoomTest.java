import java.util.NoSuchElementException;
import java.util.Random;

/** The dearest runs: any arguments in any state, 512 calls of one object, and nothing but what the document throws. */
public final class RoomTest extends Checks {
    private static int wrong = 0;

    public static void main(String[] args) {
        anyArguments();
        dearestPlans();
        System.out.println(wrong == 0 ? "all answers are as due" : wrong + " answers are not as due");
        if (wrong != 0) {
            System.exit(1);
        }
    }

    /** Seven stations, the twelve ways with the most PATHS, and the law behind them. */
    private static String mountain(int carriers, String law) {
        StringBuilder text = new StringBuilder();
        for (int i = 0; i < 7; i++) {
            text.append("station ").append((char) ('a' + i)).append(" high ").append(12 * i).append(" fall 3;");
        }
        int bit = 0;
        for (int a = 0; a < 7; a++) {
            for (int b = a + 1; b < 7; b++) {
                if ((0x2ddcb >> bit & 1) != 0) {
                    text.append("way ").append((char) ('a' + a)).append(' ').append((char) ('a' + b)).append(" long 9 thorns 0;");
                }
                bit++;
            }
        }
        for (int i = 0; i < carriers; i++) {
            text.append("carrier ").append((char) ('p' + i)).append(" mule skin 60 leak 1 thirst 1;");
        }
        return text + "drink " + law + ";spring 200;fog 30;";
    }

    private static int any(Random random) {
        switch (random.nextInt(8)) {
            case 0: return random.nextInt();
            case 1: return Integer.MIN_VALUE + random.nextInt(3);
            case 2: return Integer.MAX_VALUE - random.nextInt(3);
            case 3: return random.nextInt(200) - 100;
            default: return random.nextInt(9) - 2;
        }
    }

    private static void anyArguments() {
        Random random = new Random(5);
        String[] texts = {"", "station a high 0 fall 0;", mountain(3, "thirst"), mountain(6, "left*minute-debt"), "carrier a goat skin 9 leak 1 thirst 1;"};
        for (int run = 0; run < 300; run++) {
            SkinCarriers x = new SkinCarriers();
            if (run % 6 < texts.length) {
                lay(x, texts[run % 6]);
                x.mountain();
            }
            for (int call = 0; call < 200; call++) {
                callAny(x, random, run);
            }
        }
    }

    private static void callAny(SkinCarriers x, Random random, int run) {
        int which = random.nextInt(25);
        int a = any(random);
        int b = any(random);
        int c = any(random);
        int d = any(random);
        boolean isSo = random.nextBoolean();
        try {
            switch (which) {
                case 0: x.feed(random.nextLong(), random.nextLong(), random.nextLong()); break;
                case 1: if (isSo && random.nextInt(9) == 0) { x.mountain(); } break;
                case 2: x.station(a, b); break;
                case 3: x.way(a, b, c); break;
                case 4: x.carrier(a, b); break;
                case 5: x.paths(); break;
                case 6: x.path(a, b); break;
                case 7: x.trip(a, b, c, d); break;
                case 8: x.send(a, b, c); break;
                case 9: x.rest(); break;
                case 10: x.seed(a); break;
                case 11: x.drank(a, b); break;
                case 12: x.best(a, b, c); break;
                case 13: x.plan(a); break;
                case 14: x.relay(a, b); break;
                case 15: x.owe(a, b, c); break;
                case 16: x.owes(a, b); break;
                case 17: x.debt(a); break;
                case 18: x.settled(); break;
                case 19: x.missed(a, b); break;
                case 20: x.odds(a, b, c); break;
                case 21: x.patch(a, isSo); break;
                case 22: x.undo(); break;
                case 23: x.mark(a, isSo); break;
                default: x.count(a); break;
            }
        } catch (NoSuchElementException e) {
            if (which != 4 && which != 17) {
                tell(run, which, e);
            }
        } catch (RuntimeException e) {
            tell(run, which, e);
        }
    }

    private static void tell(int run, int which, RuntimeException e) {
        wrong++;
        System.out.println("run " + run + ": the call of number " + which + " threw " + e);
    }

    /** PLAN and RELAY made anew at each call, with a law as long as the TAPE has room for. */
    private static void dearestPlans() {
        for (int carriers = 4; carriers <= 6; carriers += 2) {
            StringBuilder law = new StringBuilder("1");
            while (mountain(carriers, law.toString()).length() <= 996) {
                law.append("*1");
            }
            SkinCarriers x = new SkinCarriers();
            lay(x, mountain(carriers, law.toString()));
            int fault = x.mountain();
            if (fault != 0 || x.paths() != 37) {
                wrong++;
                System.out.println("the dearest mountain answered " + fault + " and " + x.paths() + " paths");
            }
            for (int i = 0; i < 30; i++) {
                x.patch(0, i % 2 == 0);
                x.plan(-1);
                x.relay(60, 0);
            }
        }
    }
}
