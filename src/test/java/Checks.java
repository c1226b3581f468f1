import java.lang.reflect.InvocationTargetException;
import java.lang.reflect.Method;
import java.util.Arrays;
import java.util.Comparator;
import java.util.NoSuchElementException;

/** What the tests share: texts, how they come on the TAPE, and how an answer that is not as due is told. */
abstract class Checks {
    static final int NONE = SkinCarriers.NONE;
    /** Stands for a NoSuchElementException. */
    static final int THROWN = -1000;
    static final int LEAST = Integer.MIN_VALUE;
    static final int MOST = Integer.MAX_VALUE;

    /** Two PATHS: 0 over the pool, 1 straight. */
    static final String BASE = station("source", 0, 0) + station("pool", 40, 5) + station("city", 90, 0)
        + way("source", "pool", 30, 1) + way("pool", "city", 20, 0) + way("source", "city", 99, 2)
        + carrier("ann", "plain", 20, 1, 3) + carrier("gus", "goat", 10, 2, 2) + carrier("mol", "mule", 15, 1, 4)
        + "owes ann mol 5 ; noon 120 ; spring 30 ; fog 40 ;";

    /** A spring, one STATION between, a CITY; ten minutes each. */
    static final String LINE = line(60, 0, 10, 0);

    private static String test = "";
    private static int wrong = 0;

    /** Runs each static method of the class that has no parameters and a name that begins with promise. */
    static void runAll(Class<?> tests) {
        Method[] methods = tests.getDeclaredMethods();
        Arrays.sort(methods, Comparator.comparing(Method::getName));
        int passed = 0;
        int failed = 0;
        for (Method method : methods) {
            if (!method.getName().startsWith("promise") || method.getParameterCount() > 0) {
                continue;
            }
            if (runs(method)) {
                passed++;
            } else {
                failed++;
            }
        }
        System.out.println(passed + " passed, " + failed + " failed");
        if (failed > 0 || passed == 0) {
            System.exit(1);
        }
    }

    private static boolean runs(Method method) {
        test = method.getName();
        wrong = 0;
        try {
            method.invoke(null);
        } catch (InvocationTargetException e) {
            tell("threw " + e.getCause());
        } catch (IllegalAccessException e) {
            tell("can't be called: " + e);
        }
        return wrong == 0;
    }

    static void tell(String what) {
        wrong++;
        System.out.println(test + ": " + what);
    }

    static void due(String call, long got, long want) {
        if (got != want) {
            tell(call + " answered " + got + ", due is " + want);
        }
    }

    static void due(String call, boolean got, boolean want) {
        if (got != want) {
            tell(call + " answered " + got + ", due is " + want);
        }
    }

    static String station(String name, int high, int fall) {
        return "station " + name + " high " + high + " fall " + fall + ";";
    }

    static String way(String a, String b, int minutes, int thorns) {
        return "way " + a + " " + b + " long " + minutes + " thorns " + thorns + ";";
    }

    static String carrier(String name, String kind, int skin, int leak, int thirst) {
        return "carrier " + name + " " + kind + " skin " + skin + " leak " + leak + " thirst " + thirst + ";";
    }

    /** STATIONS a, b, c, one behind the other; told are high and fall of b, and both ways. */
    static String line(int high, int fall, int minutes, int thorns) {
        return station("a", 50, 0) + station("b", high, fall) + station("c", 70, 0)
            + way("a", "b", minutes, thorns) + way("b", "c", minutes, thorns);
    }

    /** STATIONS a to g, 12 higher each, with falls of 3 and the twelve ways of 9 minutes that leave the most PATHS: 37. */
    static String richest() {
        StringBuilder text = new StringBuilder();
        for (int i = 0; i < 7; i++) {
            text.append(station(String.valueOf((char) ('a' + i)), 12 * i, 3));
        }
        int bit = 0;
        for (char a = 'a'; a <= 'g'; a++) {
            for (char b = (char) (a + 1); b <= 'g'; b++) {
                if ((0x2ddcb >> bit & 1) != 0) {
                    text.append(way(String.valueOf(a), String.valueOf(b), 9, 0));
                }
                bit++;
            }
        }
        return text.toString();
    }

    /** So many plain CARRIERS, named from p on, who neither leak nor drink. */
    static String plainOnes(int howMany, int skin) {
        StringBuilder text = new StringBuilder();
        for (int i = 0; i < howMany; i++) {
            text.append(carrier(String.valueOf((char) ('p' + i)), "plain", skin, 0, 0));
        }
        return text.toString();
    }

    static void lay(SkinCarriers x, String text) {
        for (int at = 0; at < text.length(); at += 24) {
            long[] parts = new long[3];
            for (int i = 0; i < 24; i++) {
                int sign = at + i < text.length() ? text.charAt(at + i) : 0;
                parts[i / 8] = parts[i / 8] << 8 | sign;
            }
            x.feed(parts[0], parts[1], parts[2]);
        }
    }

    static int read(SkinCarriers x, String text) {
        lay(x, text);
        return x.mountain();
    }

    /** A new object on the MOUNTAIN. */
    static SkinCarriers on(String text) {
        SkinCarriers x = new SkinCarriers();
        due("mountain() of <" + text + ">", read(x, text), 0);
        return x;
    }

    /** The text has no FAULT. */
    static void good(String text) {
        on(text);
    }

    /** The text has a FAULT, whose place is marked by ^ in it. */
    static void fault(int kind, String marked) {
        int place = marked.indexOf('^');
        due("mountain() of <" + marked + ">", read(new SkinCarriers(), marked.replace("^", "")), kind + 16 * place);
    }

    static int carrierOf(SkinCarriers x, int carrier, int what) {
        try {
            return x.carrier(carrier, what);
        } catch (NoSuchElementException e) {
            return THROWN;
        }
    }

    static int debtOf(SkinCarriers x, int carrier) {
        try {
            return x.debt(carrier);
        } catch (NoSuchElementException e) {
            return THROWN;
        }
    }
}
