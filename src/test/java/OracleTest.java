import java.util.ArrayList;
import java.util.HashMap;
import java.util.HashSet;
import java.util.List;
import java.util.Map;
import java.util.NoSuchElementException;
import java.util.Random;
import java.util.Set;
import java.util.TreeMap;

/**
 * Runs of random calls, each answered by SkinCarriers and by a second, plain reading of DOC.md that
 * works another way: a parser that goes down by the grammar, all plans, rows and payments tried out.
 */
public final class OracleTest {
    private static final int RUNS = 1500;
    private static final int CALLS = 200;
    private static int wrong = 0;

    public static void main(String[] args) {
        for (int run = 0; run < RUNS && wrong < 20; run++) {
            new OracleTest(run).runAll();
        }
        System.out.println(wrong == 0 ? "all answers are as due" : wrong + " answers are not as due");
        if (wrong != 0) {
            System.exit(1);
        }
    }

    private final int run;
    private final Random random;
    private final SkinCarriers real = new SkinCarriers();
    private final Model model = new Model();
    private String lastText = "";

    private OracleTest(int run) {
        this.run = run;
        this.random = new Random(7919L * run + 13);
    }

    private void runAll() {
        int before = wrong;
        tell(Texts.mountain(random));
        for (int i = 0; i < CALLS && wrong == before; i++) {
            int dice = random.nextInt(100);
            if (dice < 2) {
                tell(Texts.mountain(random));
            } else if (dice < 8) {
                tell(Texts.spoiled(random, Texts.mountain(random)));
            } else {
                callOne();
            }
        }
        if (wrong != before) {
            System.out.println("run " + run + ": the last text was <" + lastText + ">");
        }
    }

    private void due(String call, long got, long want) {
        if (got != want) {
            wrong++;
            System.out.println("run " + run + ": " + call + " answered " + got + ", due is " + want);
        }
    }

    private void tell(String text) {
        lastText = text;
        for (int at = 0; at < text.length(); at += 24) {
            long[] parts = new long[3];
            for (int i = 0; i < 24; i++) {
                int sign = at + i < text.length() ? text.charAt(at + i) : 0;
                parts[i / 8] = parts[i / 8] << 8 | sign;
            }
            due("feed", real.feed(parts[0], parts[1], parts[2]), model.feed(parts));
        }
        due("mountain()", real.mountain(), model.mountain());
        for (int what = -2; what < 11; what++) {
            due("count(" + what + ")", real.count(what), model.count(what));
        }
    }

    private int about(int most) {
        return random.nextInt(10) == 0 ? random.nextInt(most + 4) - 2 : random.nextInt(Math.max(1, most));
    }

    private void callOne() {
        int c = about(model.m.carriers.size());
        int d = about(model.m.carriers.size());
        int p = about(model.m.paths.size());
        int s = about(model.m.stations.size());
        int t = about(model.m.stations.size());
        int holds = c >= 0 && c < model.m.carriers.size() ? model.holds(c) : 10;
        int load = random.nextInt(8) == 0 ? holds + random.nextInt(3) : random.nextInt(holds + 1);
        switch (random.nextInt(24)) {
            case 0: { int w = about(3); due("station(" + s + "," + w + ")", real.station(s, w), model.station(s, w)); break; }
            case 1: { int w = about(2); due("way(" + s + "," + t + "," + w + ")", real.way(s, t, w), model.way(s, t, w)); break; }
            case 2: { int w = about(7); due("carrier(" + c + "," + w + ")", realCarrier(c, w), model.carrier(c, w)); break; }
            case 3: due("paths()", real.paths(), model.m.paths.size()); break;
            case 4: { int i = about(7); due("path(" + p + "," + i + ")", real.path(p, i), model.path(p, i)); break; }
            case 5:
            case 6: { int w = about(4); due("trip(" + c + "," + p + "," + load + "," + w + ")", real.trip(c, p, load, w), model.trip(c, p, load, w)); break; }
            case 7:
            case 8:
            case 9: due("send(" + c + "," + p + "," + load + ")", real.send(c, p, load), model.send(c, p, load)); break;
            case 10: if (random.nextInt(3) == 0) { due("rest()", real.rest(), model.rest()); } break;
            case 11: { int g = random.nextInt(12000) - 1000; due("seed(" + g + ")", real.seed(g) ? 1 : 0, model.seed(g) ? 1 : 0); break; }
            case 12: { int i = about(8); int w = about(3); due("drank(" + i + "," + w + ")", real.drank(i, w), model.drank(i, w)); break; }
            case 13: { int w = about(2); due("best(" + c + "," + load + "," + w + ")", real.best(c, load, w), model.best(c, load, w)); break; }
            case 14: { int w = random.nextInt(2 * model.m.carriers.size() + 4) - 2; due("plan(" + w + ")", real.plan(w), model.plan(w)); break; }
            case 15: { int l = about(61); int w = about(9); due("relay(" + l + "," + w + ")", real.relay(l, w), model.relay(l, w)); break; }
            case 16: { int m = about(100); due("owe(" + c + "," + d + "," + m + ")", real.owe(c, d, m) ? 1 : 0, model.owe(c, d, m) ? 1 : 0); break; }
            case 17: due("owes(" + c + "," + d + ")", real.owes(c, d), model.owes(c, d)); due("settled()", real.settled(), model.settled()); break;
            case 18: due("debt(" + c + ")", realDebt(c), model.debtAnswer(c)); break;
            case 19: { int m = about(30); int w = about(2); due("missed(" + m + "," + w + ")", real.missed(m, w), model.missed(m, w)); break; }
            case 20: { int m = about(30); int w = about(2); due("odds(" + m + "," + c + "," + w + ")", real.odds(m, c, w), model.odds(m, c, w)); break; }
            case 21: { boolean on = random.nextBoolean(); due("patch(" + c + "," + on + ")", real.patch(c, on) ? 1 : 0, model.patch(c, on) ? 1 : 0); break; }
            case 22: due("undo()", real.undo() ? 1 : 0, model.undo() ? 1 : 0); break;
            default: { int k = about(4); boolean back = random.nextBoolean(); due("mark(" + k + "," + back + ")", real.mark(k, back) ? 1 : 0, model.mark(k, back) ? 1 : 0); break; }
        }
        int w = random.nextInt(9);
        due("count(" + w + ")", real.count(w), model.count(w));
    }

    private long realCarrier(int c, int w) {
        try {
            return real.carrier(c, w);
        } catch (NoSuchElementException e) {
            return Long.MIN_VALUE;
        }
    }

    private long realDebt(int c) {
        try {
            return real.debt(c);
        } catch (NoSuchElementException e) {
            return Long.MIN_VALUE;
        }
    }

    /** Random texts. */
    private static final class Texts {
        static final String[] KINDS = {"plain", "goat", "mule", "cousin", "patched", "licker"};

        static String law(Random r, boolean drink, int deep) {
            StringBuilder b = new StringBuilder();
            int parts = 1 + r.nextInt(4);
            boolean compared = false;
            for (int i = 0; i < parts; i++) {
                if (i > 0) {
                    int sign = r.nextInt(compared ? 5 : 7);
                    b.append(new String[] {" + ", " - ", "*", " and ", " or ", " < ", " = "}[sign]);
                    compared = sign >= 5 || compared && sign < 3;
                }
                int dice = r.nextInt(10);
                if (dice < 3) {
                    b.append(r.nextInt(r.nextInt(5) == 0 ? 10000 : 12));
                } else if (dice < 7) {
                    String[] facts = drink ? new String[] {"thirst", "left", "high", "minute", "debt"} : new String[] {"above", "came"};
                    b.append(facts[r.nextInt(facts.length)]);
                } else if (deep < 4 || r.nextInt(60) == 0) {
                    if (r.nextBoolean()) {
                        b.append("not ").append(deep < 3 ? "(" + law(r, drink, deep + 2) + ")" : "3");
                    } else {
                        b.append("(").append(law(r, drink, deep + 1)).append(")");
                    }
                } else {
                    b.append("2");
                }
            }
            return b.toString();
        }

        static String mountain(Random r) {
            List<String> told = new ArrayList<>();
            int n = r.nextInt(12) == 0 ? r.nextInt(2) : 2 + r.nextInt(6);
            int c = r.nextInt(12) == 0 ? 0 : 1 + r.nextInt(r.nextInt(3) == 0 ? 6 : 4);
            String names = "abcdefg";
            for (int i = 0; i < n; i++) {
                told.add("station s" + names.charAt(i) + " high " + r.nextInt(100) + " fall " + r.nextInt(10) + ";");
            }
            Set<String> pairs = new HashSet<>();
            int ways = r.nextInt(13);
            for (int i = 0; i < ways * 2 && n > 1 && pairs.size() < 12; i++) {
                int a = r.nextInt(n);
                int b = r.nextInt(n);
                if (a != b && pairs.add(Math.min(a, b) + " " + Math.max(a, b))) {
                    told.add("way s" + names.charAt(a) + " s" + names.charAt(b) + " long " + (1 + r.nextInt(r.nextBoolean() ? 20 : 99)) + " thorns " + r.nextInt(r.nextInt(5) > 0 ? 2 : 10) + " ;");
                }
            }
            // Small skins keep the trying out of all plans short.
            int skin = c <= 2 ? 30 : c <= 3 ? 14 : c == 4 ? 7 : 4;
            for (int i = 0; i < c; i++) {
                told.add("carrier c" + names.charAt(i) + " " + KINDS[r.nextInt(6)] + " skin " + (1 + r.nextInt(skin)) + " leak " + r.nextInt(r.nextInt(5) > 0 ? 3 : 21) + " thirst " + r.nextInt(r.nextInt(4) > 0 ? 3 : 10) + " ;\n");
            }
            Set<String> owing = new HashSet<>();
            for (int i = 0; i < c; i++) {
                int a = r.nextInt(c);
                int b = r.nextInt(c);
                if (a != b && owing.add(a + " " + b)) {
                    told.add("owes c" + names.charAt(a) + " c" + names.charAt(b) + " " + (1 + r.nextInt(r.nextBoolean() ? 5 : 99)) + ";");
                }
            }
            if (r.nextBoolean()) {
                told.add("drink " + law(r, true, 0) + ";");
            }
            if (r.nextBoolean()) {
                told.add("price " + law(r, false, 0) + ";");
            }
            if (r.nextBoolean()) {
                told.add("fog " + r.nextInt(100) + ";");
            }
            if (r.nextBoolean()) {
                told.add("spring " + r.nextInt(r.nextBoolean() ? 40 : 201) + ";");
            }
            if (r.nextBoolean()) {
                told.add("noon " + (1 + r.nextInt(r.nextBoolean() ? 150 : 999)) + ";");
            }
            StringBuilder b = new StringBuilder();
            for (String one : told) {
                b.append(one).append(r.nextBoolean() ? " " : "");
            }
            return b.toString();
        }

        static final String[] BITS = {"station", "high", "fall", "way", "long", "thorns", "carrier", "skin", "leak", "thirst", "owes",
            "drink", "price", "fog", "spring", "noon", "goat", "not", "and", "or", "left", "minute", "debt", "above", "came", "sa", "sb",
            "ca", "cb", "zz", "abcdefgh", "abcdefghi", "0", "1", "60", "61", "99", "100", "9999", "00001", "12345", "(", ")", "<", "=", "+",
            "-", "*", ";", "?", "A", "\n", " ", "fog 3;", "noon 7;", "drink not not not not not", "price ((((("};

        static String spoiled(Random r, String text) {
            String now = text;
            for (int n = 1 + r.nextInt(2); n > 0; n--) {
                List<int[]> tokens = tokens(now);
                int[] token = tokens.isEmpty() ? new int[] {0, 0} : tokens.get(r.nextInt(tokens.size()));
                String old = now.substring(token[0], token[1]);
                switch (r.nextInt(8)) {
                    case 4:
                    case 5: now = now.substring(0, token[0]) + another(r, old) + now.substring(token[1]); break;
                    case 6: now = now + " " + now.substring(token[0], Math.min(now.length(), token[0] + r.nextInt(60))); break;
                    case 7: now = now + " " + mountain(r).replace(" s", " y").replace(" c", " x"); break;
                    case 0: now = now.substring(0, token[0]) + now.substring(token[1]); break;
                    case 1: now = now.substring(0, token[0]) + BITS[r.nextInt(BITS.length)] + now.substring(token[1]); break;
                    case 2: now = now.substring(0, token[0]) + BITS[r.nextInt(BITS.length)] + " " + now.substring(token[0]); break;
                    default: now = r.nextInt(3) == 0 ? now.substring(0, token[1]) : now + " " + BITS[r.nextInt(BITS.length)]; break;
                }
            }
            return now;
        }

        /** For a number another number, for a name another name. */
        private static String another(Random r, String old) {
            if (old.matches("[0-9]+")) {
                return "" + r.nextInt(r.nextBoolean() ? 20 : 300);
            }
            if (old.matches("[sc][a-g]")) {
                return (r.nextBoolean() ? "s" : "c") + "abcdefg".charAt(r.nextInt(7));
            }
            return BITS[r.nextInt(BITS.length)];
        }

        private static List<int[]> tokens(String text) {
            List<int[]> all = new ArrayList<>();
            java.util.regex.Matcher m = java.util.regex.Pattern.compile("[a-z]+|[0-9]+|[^\\s]").matcher(text);
            while (m.find()) {
                all.add(new int[] {m.start(), m.end()});
            }
            return all;
        }
    }

    private static final class Fault extends RuntimeException {
        private static final long serialVersionUID = 1L;
        final int value;

        Fault(int kind, int place) {
            this.value = kind + 16 * place;
        }
    }

    /** A node of an E. */
    private interface Node {
        int value(Map<String, Integer> facts);
    }

    private static final class Told {
        List<int[]> stations = new ArrayList<>();
        Map<String, int[]> ways = new TreeMap<>();
        List<int[]> carriers = new ArrayList<>();
        Map<String, Integer> owes = new HashMap<>();
        List<List<Integer>> paths = new ArrayList<>();
        Node drink = f -> f.get("thirst");
        Node price = f -> 1;
        int fog = 99;
        int spring = 60;
        int noon = 360;
        int waysTold;
    }

    /** Goes down by the grammar, token by token. */
    private static final class Parser {
        static final List<String> RESERVED = List.of("station", "high", "fall", "way", "long", "thorns", "carrier", "skin", "leak",
            "thirst", "owes", "drink", "price", "fog", "spring", "noon", "plain", "goat", "mule", "cousin", "patched", "licker",
            "not", "and", "or");
        final String text;
        int at;
        final Told m = new Told();
        final List<String> stationNames = new ArrayList<>();
        final List<String> carrierNames = new ArrayList<>();
        final Set<String> once = new HashSet<>();

        Parser(String text) {
            this.text = text;
        }

        int start() {
            int i = at;
            while (i < text.length() && (text.charAt(i) == ' ' || text.charAt(i) == '\n')) {
                i++;
            }
            return i;
        }

        /** The token that comes next; "" at the end, "?" if it is none. */
        String peek() {
            int i = start();
            if (i == text.length()) {
                return "";
            }
            java.util.regex.Matcher w = java.util.regex.Pattern.compile("[a-z]+|[0-9]+|[()<=+*;-]").matcher(text);
            w.region(i, text.length());
            if (!w.lookingAt()) {
                return "?";
            }
            String token = w.group();
            if (Character.isLetter(token.charAt(0)) && token.length() > 8 || Character.isDigit(token.charAt(0)) && token.length() > 4) {
                return "?";
            }
            return token;
        }

        Fault fault(int kind) {
            return new Fault(kind, start());
        }

        void pass() {
            at = start() + peek().length();
        }

        void word(String due) {
            if (!peek().equals(due)) {
                throw fault(1);
            }
            pass();
        }

        int number(int least, int most) {
            String token = peek();
            if (!token.matches("[0-9]+")) {
                throw fault(1);
            }
            int value = Integer.parseInt(token);
            if (value < least || value > most) {
                throw fault(4);
            }
            pass();
            return value;
        }

        String name() {
            String token = peek();
            if (!token.matches("[a-z]+") || RESERVED.contains(token)) {
                throw fault(1);
            }
            return token;
        }

        String newName() {
            String name = name();
            if (stationNames.contains(name) || carrierNames.contains(name)) {
                throw fault(3);
            }
            pass();
            return name;
        }

        int[] pair(List<String> names, Set<String> told, boolean bothWays) {
            int a = names.indexOf(name());
            if (a < 0) {
                throw fault(2);
            }
            pass();
            int b = names.indexOf(name());
            if (b < 0) {
                throw fault(2);
            }
            if (a == b || told.contains(a + " " + b) || bothWays && told.contains(b + " " + a)) {
                throw fault(3);
            }
            pass();
            return new int[] {a, b};
        }

        Told parse() {
            while (!peek().equals("")) {
                String first = peek();
                if (List.of("drink", "price", "fog", "spring", "noon").contains(first) && !once.add(first)) {
                    throw fault(3);
                }
                if (first.equals("station") && m.stations.size() == 7 || first.equals("way") && m.waysTold == 12
                        || first.equals("carrier") && m.carriers.size() == 6) {
                    throw fault(5);
                }
                if (!List.of("station", "way", "carrier", "owes", "drink", "price", "fog", "spring", "noon").contains(first)) {
                    throw fault(1);
                }
                pass();
                tellOne(first);
                word(";");
            }
            return m;
        }

        void tellOne(String first) {
            if (first.equals("station")) {
                String name = newName();
                word("high");
                int high = number(0, 99);
                word("fall");
                m.stations.add(new int[] {high, number(0, 9)});
                stationNames.add(name);
            } else if (first.equals("way")) {
                int[] ab = pair(stationNames, m.ways.keySet(), true);
                word("long");
                int length = number(1, 99);
                word("thorns");
                int[] way = {length, number(0, 9)};
                m.ways.put(ab[0] + " " + ab[1], way);
                m.ways.put(ab[1] + " " + ab[0], way);
                m.waysTold++;
            } else if (first.equals("carrier")) {
                String name = newName();
                int kind = List.of(Texts.KINDS).indexOf(peek());
                if (kind < 0) {
                    throw fault(1);
                }
                pass();
                word("skin");
                int skin = number(1, 60);
                word("leak");
                int leak = number(0, 20);
                word("thirst");
                m.carriers.add(new int[] {kind, skin, leak, number(0, 9)});
                carrierNames.add(name);
            } else if (first.equals("owes")) {
                int[] ab = pair(carrierNames, m.owes.keySet(), false);
                m.owes.put(ab[0] + " " + ab[1], number(1, 99));
            } else if (first.equals("drink")) {
                m.drink = e(List.of("thirst", "left", "high", "minute", "debt"), 0);
            } else if (first.equals("price")) {
                m.price = e(List.of("above", "came"), 0);
            } else if (first.equals("fog")) {
                m.fog = number(0, 99);
            } else if (first.equals("spring")) {
                m.spring = number(0, 200);
            } else {
                m.noon = number(1, 999);
            }
        }

        Node e(List<String> facts, int deep) {
            Node left = test(facts, deep);
            while (peek().equals("and") || peek().equals("or")) {
                boolean and = peek().equals("and");
                pass();
                Node a = left;
                Node b = test(facts, deep);
                left = and ? f -> a.value(f) != 0 && b.value(f) != 0 ? 1 : 0 : f -> a.value(f) != 0 || b.value(f) != 0 ? 1 : 0;
            }
            return left;
        }

        Node test(List<String> facts, int deep) {
            Node a = sum(facts, deep);
            if (peek().equals("<") || peek().equals("=")) {
                boolean less = peek().equals("<");
                pass();
                Node b = sum(facts, deep);
                return less ? f -> a.value(f) < b.value(f) ? 1 : 0 : f -> a.value(f) == b.value(f) ? 1 : 0;
            }
            return a;
        }

        Node sum(List<String> facts, int deep) {
            Node left = product(facts, deep);
            while (peek().equals("+") || peek().equals("-")) {
                boolean plus = peek().equals("+");
                pass();
                Node a = left;
                Node b = product(facts, deep);
                left = plus ? f -> a.value(f) + b.value(f) : f -> a.value(f) - b.value(f);
            }
            return left;
        }

        Node product(List<String> facts, int deep) {
            Node left = part(facts, deep);
            while (peek().equals("*")) {
                pass();
                Node a = left;
                Node b = part(facts, deep);
                left = f -> a.value(f) * b.value(f);
            }
            return left;
        }

        Node part(List<String> facts, int deep) {
            String token = peek();
            boolean number = token.matches("[0-9]+");
            if (!number && !facts.contains(token) && !token.equals("not") && !token.equals("(")) {
                throw fault(1);
            }
            if (deep == 5) {
                throw fault(5);
            }
            pass();
            if (number) {
                int value = Integer.parseInt(token);
                return f -> value;
            }
            if (token.equals("not")) {
                Node a = part(facts, deep + 1);
                return f -> a.value(f) == 0 ? 1 : 0;
            }
            if (token.equals("(")) {
                Node a = e(facts, deep + 1);
                word(")");
                return a;
            }
            return f -> f.get(token);
        }
    }

    /** All that a MARK holds. */
    private static final class State {
        int above;
        int came;
        int spring;
        long g;
        int[] falls = new int[0];
        Set<Integer> sent = new HashSet<>();
        Set<Integer> patched = new HashSet<>();
        Map<Integer, Integer> paid = new HashMap<>();
        Map<String, Integer> owes = new HashMap<>();
        List<int[]> book = new ArrayList<>();

        State copy() {
            State s = new State();
            s.above = above;
            s.came = came;
            s.spring = spring;
            s.g = g;
            s.falls = falls.clone();
            s.sent = new HashSet<>(sent);
            s.patched = new HashSet<>(patched);
            s.paid = new HashMap<>(paid);
            s.owes = new HashMap<>(owes);
            s.book = new ArrayList<>(book);
            return s;
        }
    }

    private static final class Model {
        private final StringBuilder tape = new StringBuilder();
        Told m = new Told();
        private State s = new State();
        private final State[] marks = new State[4];
        private final List<Runnable> undos = new ArrayList<>();
        private int planStamp = 0;
        private int plannedAt = -1;
        private int[] bestLoads;
        private int bestTotal;
        private int[][] lefts;
        private final Map<Integer, int[]> relays = new HashMap<>();

        Model() {
            s.spring = 60;
        }

        private void changed() {
            planStamp++;
            relays.clear();
        }

        int feed(long[] parts) {
            for (long part : parts) {
                for (int i = 7; i >= 0; i--) {
                    int sign = (int) (part >> 8 * i & 255);
                    if ((sign == 10 || sign >= 32 && sign <= 126) && tape.length() < 1000) {
                        tape.append((char) sign);
                    }
                }
            }
            return tape.length();
        }

        int mountain() {
            String text = tape.toString();
            tape.setLength(0);
            try {
                m = new Parser(text).parse();
            } catch (Fault f) {
                return f.value;
            }
            if (!m.stations.isEmpty()) {
                findPaths(new ArrayList<>(List.of(0)));
            }
            s = new State();
            rest();
            s.owes = new HashMap<>(m.owes);
            undos.clear();
            java.util.Arrays.fill(marks, null);
            changed();
            return 0;
        }

        private void findPaths(List<Integer> here) {
            int at = here.get(here.size() - 1);
            if (at == m.stations.size() - 1) {
                m.paths.add(new ArrayList<>(here));
                return;
            }
            for (int to = 0; to < m.stations.size(); to++) {
                if (!here.contains(to) && m.ways.containsKey(at + " " + to)) {
                    here.add(to);
                    findPaths(here);
                    here.remove(here.size() - 1);
                }
            }
        }

        private boolean isCarrier(int c) {
            return c >= 0 && c < m.carriers.size();
        }

        int holds(int c) {
            return m.carriers.get(c)[0] == 2 ? m.carriers.get(c)[1] * 2 : m.carriers.get(c)[1];
        }

        int station(int i, int what) {
            if (i < 0 || i >= m.stations.size() || what < 0 || what > 2) {
                return -1;
            }
            return what == 2 ? s.falls[i] : m.stations.get(i)[what];
        }

        int way(int a, int b, int what) {
            int[] way = m.ways.get(a + " " + b);
            return way == null || what < 0 || what > 1 ? -1 : way[what];
        }

        long carrier(int c, int what) {
            if (!isCarrier(c) || what < 0 || what > 6) {
                return Long.MIN_VALUE;
            }
            switch (what) {
                case 1: return holds(c);
                case 4: return s.patched.contains(c) ? 1 : 0;
                case 5: return s.sent.contains(c) ? 1 : 0;
                case 6: return s.paid.getOrDefault(c, 0);
                default: return m.carriers.get(c)[what];
            }
        }

        int path(int p, int i) {
            return p < 0 || p >= m.paths.size() || i < 0 || i >= m.paths.get(p).size() ? -1 : m.paths.get(p).get(i);
        }

        int debt(int c) {
            int sum = 0;
            for (Map.Entry<String, Integer> one : s.owes.entrySet()) {
                String[] ab = one.getKey().split(" ");
                sum += Integer.parseInt(ab[0]) == c ? one.getValue() : 0;
                sum -= Integer.parseInt(ab[1]) == c ? one.getValue() : 0;
            }
            return sum;
        }

        long debtAnswer(int c) {
            return isCarrier(c) ? debt(c) : Long.MIN_VALUE;
        }

        private int leakOn(int c, int from, int to, int left) {
            int[] way = m.ways.get(from + " " + to);
            int[] who = m.carriers.get(c);
            int drops = who[2] * way[0] / 10;
            if (who[0] == 4 || s.patched.contains(c)) {
                drops /= 2;
            }
            return Math.min(left, drops + (who[0] == 1 ? 0 : way[1]));
        }

        private int minutesOn(int c, int from, int to) {
            int length = m.ways.get(from + " " + to)[0];
            return m.carriers.get(c)[0] == 2 ? length + length / 2 : length;
        }

        private int drinkAt(int c, int at, int left, int minutes) {
            int[] who = m.carriers.get(c);
            if (who[0] == 3 && debt(c) > 0) {
                return 0;
            }
            Map<String, Integer> facts = new HashMap<>();
            facts.put("thirst", who[3]);
            facts.put("left", left);
            facts.put("high", m.stations.get(at)[0]);
            facts.put("minute", minutes);
            facts.put("debt", debt(c));
            java.math.BigInteger wants = java.math.BigInteger.valueOf(m.drink.value(facts));
            if (who[0] == 1) {
                wants = wants.add(wants);
            }
            return wants.max(java.math.BigInteger.ZERO).min(java.math.BigInteger.valueOf(left)).intValue();
        }

        /** {left, minutes, drunk, leaked}. */
        private int[] go(int c, List<Integer> path, int load, boolean sent) {
            int[] all = {load, 0, 0, 0};
            for (int i = 1; i < path.size(); i++) {
                int from = path.get(i - 1);
                int to = path.get(i);
                int drops = leakOn(c, from, to, all[0]);
                all[0] -= drops;
                all[3] += drops;
                all[1] += minutesOn(c, from, to);
                if (i == path.size() - 1) {
                    break;
                }
                if (sent) {
                    if (m.stations.get(to)[0] >= m.fog) {
                        s.g = (s.g * 1103515245L + 12345L) & 0x7fffffffL;
                        int more = (int) ((s.g >> 16) & 3) + (m.carriers.get(c)[0] == 5 ? 1 : 0);
                        all[0] = Math.min(all[0] + more, holds(c));
                    }
                    while (s.falls[to] > 0 && all[0] < holds(c)) {
                        s.falls[to]--;
                        all[0]++;
                    }
                }
                int drinks = drinkAt(c, to, all[0], all[1]);
                all[0] -= drinks;
                all[2] += drinks;
                if (sent && drinks > 0 && s.book.size() < 60) {
                    s.book.add(new int[] {c, to, drinks});
                }
            }
            return all;
        }

        private boolean fits(int c, int p, int load) {
            return isCarrier(c) && p >= 0 && p < m.paths.size() && load >= 0 && load <= holds(c);
        }

        int trip(int c, int p, int load, int what) {
            return !fits(c, p, load) || what < 0 || what > 3 ? -1 : go(c, m.paths.get(p), load, false)[what];
        }

        int send(int c, int p, int load) {
            if (!fits(c, p, load) || s.sent.contains(c) || s.spring < load) {
                return -1;
            }
            s.sent.add(c);
            s.spring -= load;
            int left = go(c, m.paths.get(p), load, true)[0];
            int price = m.price.value(Map.of("above", s.above, "came", s.came));
            s.paid.merge(c, left * (price < 0 ? 0 : price > 99 ? 99 : price), Integer::sum);
            s.above += left;
            s.came++;
            return left;
        }

        int rest() {
            int was = s.above;
            s.above = 0;
            s.came = 0;
            s.spring = m.spring;
            s.sent.clear();
            s.book.clear();
            s.falls = m.stations.stream().mapToInt(one -> one[1]).toArray();
            return was;
        }

        boolean seed(int g) {
            if (g < 0 || g > 9999) {
                return false;
            }
            s.g = g;
            return true;
        }

        int drank(int i, int what) {
            return i < 0 || i >= s.book.size() || what < 0 || what > 2 ? -1 : s.book.get(i)[what];
        }

        int best(int c, int load, int what) {
            if (!fits(c, 0, load) || what < 0 || what > 1) {
                return -1;
            }
            int path = -1;
            int most = -1;
            for (int p = m.paths.size() - 1; p >= 0; p--) {
                int[] all = go(c, m.paths.get(p), load, false);
                if (all[1] <= m.noon && all[0] >= most) {
                    path = p;
                    most = all[0];
                }
            }
            return what == 0 ? path : most;
        }

        int plan(int what) {
            int n = m.carriers.size();
            if (what < -1 || what >= 2 * n) {
                return -2;
            }
            if (plannedAt != planStamp) {
                plannedAt = planStamp;
                bestTotal = -1;
                bestLoads = new int[n];
                lefts = new int[n][];
                for (int c = 0; c < n; c++) {
                    lefts[c] = new int[holds(c) + 1];
                    for (int load = 1; load <= holds(c); load++) {
                        lefts[c][load] = best(c, load, 1);
                    }
                }
                tryLoads(0, new int[n], m.spring, 0);
            }
            if (what == -1) {
                return bestTotal;
            }
            int load = bestLoads[what / 2];
            return what % 2 == 0 ? load : load == 0 ? -1 : best(what / 2, load, 0);
        }

        /** Rows of loads from the least on: the first of the best ones stays. */
        private void tryLoads(int c, int[] loads, int spring, int total) {
            if (c == loads.length) {
                if (total > bestTotal) {
                    bestTotal = total;
                    bestLoads = loads.clone();
                }
                return;
            }
            for (int load = 0; load <= Math.min(spring, holds(c)); load++) {
                if (lefts[c][load] >= 0) {
                    loads[c] = load;
                    tryLoads(c + 1, loads, spring - load, total + lefts[c][load]);
                }
            }
            loads[c] = 0;
        }

        int relay(int load, int what) {
            int n = m.carriers.size();
            if (load < 0 || load > 60 || what < 0 || n == 0 || n > 4 || m.stations.size() < 2) {
                return -1;
            }
            int[] found = relays.computeIfAbsent(load, this::searchRelay);
            return what < found.length ? found[what] : -1;
        }

        /** {left, path, row of carriers}: every row of carriers is tried, also those that are not allowed. */
        private int[] searchRelay(int load) {
            int n = m.carriers.size();
            int[] best = {-1, -1};
            for (int p = 0; p < m.paths.size(); p++) {
                List<Integer> path = m.paths.get(p);
                int ways = path.size() - 1;
                int rows = (int) Math.round(Math.pow(n, ways));
                for (int code = 0; code < rows; code++) {
                    int[] row = new int[ways];
                    int rest = code;
                    for (int i = ways - 1; i >= 0; i--) {
                        row[i] = rest % n;
                        rest /= n;
                    }
                    int left = goRow(path, row, load);
                    if (left > best[0]) {
                        best = new int[2 + ways];
                        best[0] = left;
                        best[1] = p;
                        System.arraycopy(row, 0, best, 2, ways);
                    }
                }
            }
            return best;
        }

        private int goRow(List<Integer> path, int[] row, int load) {
            Set<Integer> had = new HashSet<>();
            int left = load;
            int minutes = 0;
            for (int i = 0; i < row.length; i++) {
                if (i == 0 || row[i] != row[i - 1]) {
                    if (!had.add(row[i])) {
                        return -1;
                    }
                    left = Math.min(left, holds(row[i]));
                }
                int to = path.get(i + 1);
                left -= leakOn(row[i], path.get(i), to, left);
                minutes += minutesOn(row[i], path.get(i), to);
                if (i < row.length - 1) {
                    left -= drinkAt(row[i], to, left, minutes);
                }
            }
            return minutes <= m.noon ? left : -1;
        }

        boolean owe(int a, int b, int mouthfuls) {
            if (!isCarrier(a) || !isCarrier(b) || a == b || mouthfuls < 0 || mouthfuls > 99 || owes(a, b) == mouthfuls) {
                return false;
            }
            int old = owes(a, b);
            keep(() -> s.owes.put(a + " " + b, old));
            s.owes.put(a + " " + b, mouthfuls);
            changed();
            return true;
        }

        private void keep(Runnable undo) {
            undos.add(undo);
            if (undos.size() > 20) {
                undos.remove(0);
            }
        }

        int owes(int a, int b) {
            return !isCarrier(a) || !isCarrier(b) || a == b ? -1 : s.owes.getOrDefault(a + " " + b, 0);
        }

        int settled() {
            List<Integer> balances = new ArrayList<>();
            for (int c = 0; c < m.carriers.size(); c++) {
                if (debt(c) != 0) {
                    balances.add(debt(c));
                }
            }
            return pay(balances.stream().mapToInt(i -> i).toArray(), 0);
        }

        /** The first who is not settled pays to, or is paid by, one with the other sign. */
        private int pay(int[] balances, int from) {
            int i = from;
            while (i < balances.length && balances[i] == 0) {
                i++;
            }
            if (i == balances.length) {
                return 0;
            }
            int fewest = Integer.MAX_VALUE;
            for (int j = i + 1; j < balances.length; j++) {
                if (balances[i] * (long) balances[j] < 0) {
                    balances[j] += balances[i];
                    fewest = Math.min(fewest, 1 + pay(balances, i + 1));
                    balances[j] -= balances[i];
                }
            }
            return fewest;
        }

        private List<Set<Integer>> sets(int mouthfuls) {
            List<Set<Integer>> all = new ArrayList<>();
            all.add(new HashSet<>());
            for (int c = 0; c < m.carriers.size(); c++) {
                int size = all.size();
                for (int i = 0; i < size; i++) {
                    Set<Integer> with = new HashSet<>(all.get(i));
                    with.add(c);
                    all.add(with);
                }
            }
            all.removeIf(set -> set.stream().mapToInt(c -> m.carriers.get(c)[3]).sum() != mouthfuls);
            return all;
        }

        int missed(int mouthfuls, int what) {
            if (mouthfuls < 0 || mouthfuls > 99 || what < 0 || what > 1) {
                return -1;
            }
            List<Set<Integer>> all = sets(mouthfuls);
            if (what == 0) {
                return all.size();
            }
            int bits = 0;
            for (int c = 0; c < m.carriers.size(); c++) {
                int carrier = c;
                if (!all.isEmpty() && all.stream().allMatch(set -> set.contains(carrier))) {
                    bits |= 1 << c;
                }
            }
            return bits;
        }

        int odds(int mouthfuls, int c, int what) {
            if (mouthfuls < 0 || mouthfuls > 99 || what < 0 || what > 1 || !isCarrier(c)) {
                return -1;
            }
            List<Set<Integer>> all = sets(mouthfuls);
            int with = (int) all.stream().filter(set -> set.contains(c)).count();
            if (all.isEmpty()) {
                return -1;
            }
            int common = java.math.BigInteger.valueOf(with).gcd(java.math.BigInteger.valueOf(all.size())).intValue();
            return (what == 0 ? with : all.size()) / common;
        }

        boolean patch(int c, boolean on) {
            if (!isCarrier(c) || s.patched.contains(c) == on) {
                return false;
            }
            keep(() -> setPatch(c, !on));
            setPatch(c, on);
            changed();
            return true;
        }

        private void setPatch(int c, boolean on) {
            if (on) {
                s.patched.add(c);
            } else {
                s.patched.remove(c);
            }
        }

        boolean undo() {
            if (undos.isEmpty()) {
                return false;
            }
            undos.remove(undos.size() - 1).run();
            changed();
            return true;
        }

        boolean mark(int k, boolean back) {
            if (k < 0 || k > 3 || back && marks[k] == null) {
                return false;
            }
            if (back) {
                s = marks[k].copy();
                undos.clear();
                changed();
            } else {
                marks[k] = s.copy();
            }
            return true;
        }

        int count(int what) {
            switch (what) {
                case 0: return m.stations.size();
                case 1: return m.waysTold;
                case 2: return m.carriers.size();
                case 3: return s.above;
                case 4: return s.spring;
                case 5: return m.noon;
                case 6: return s.book.size();
                case 7: return undos.size();
                case 8: return tape.length();
                default: return -1;
            }
        }
    }
}
