import java.util.Arrays;
import java.util.NoSuchElementException;

/** Water carriers up to a rock city. DOC.md's promises are named at the methods that keep them. */
public final class SkinCarriers {
    public static final int NONE = -1;

    private static final int MOST_SIGNS = 1000;
    private static final int MOST_STATIONS = 7;
    private static final int MOST_WAYS = 12;
    private static final int MOST_CARRIERS = 6;
    private static final int MOST_SKIN = 60;
    private static final int MOST_SPRING = 200;
    private static final int MOST_DEBT = 99;
    private static final int MOST_MISSING = 99;
    private static final int MOST_SEED = 9999;
    private static final int MOST_PRICE = 99;
    private static final int MOST_RELAY_CARRIERS = 4;
    private static final int MOST_RELAY_LOAD = 60;
    private static final int MARKS = 4;
    private static final int MOST_UNDOS = 20;
    /** Places for undoing below it are of debts. */
    private static final int PATCH_PLACES = MOST_CARRIERS * MOST_CARRIERS;

    private static final int PLAIN = 0;
    private static final int GOAT = 1;
    private static final int MULE = 2;
    private static final int COUSIN = 3;
    private static final int PATCHED = 4;
    private static final int LICKER = 5;

    private static final int THIRST = 0;
    private static final int LEFT = 1;
    private static final int HIGH = 2;
    private static final int MINUTE = 3;
    private static final int DEBT = 4;
    private static final int ABOVE = 5;
    private static final int CAME = 6;
    private static final int FACTS = 7;

    private final Tape tape;
    private final Reader reader;
    private final Mountain told;
    private final Day day;
    private final Routes routes;
    private final Walk walk;
    private final Planner planner;
    private final Handing handing;
    private final Sets sets;
    /** The last patches and debts by hand: where something was changed, and what was there. */
    private final int[] undoPlaces;
    private final int[] undoOlds;
    private int undos;
    private final Day[] marks;
    private final boolean[] laid;

    /** Promise 1. */
    public SkinCarriers() {
        tape = new Tape();
        reader = new Reader(tape);
        told = new Mountain();
        day = new Day();
        routes = new Routes();
        walk = new Walk(told, day, routes);
        planner = new Planner(told, routes, walk);
        handing = new Handing(told, routes, walk);
        sets = new Sets();
        undoPlaces = new int[MOST_UNDOS];
        undoOlds = new int[MOST_UNDOS];
        marks = new Day[MARKS];
        laid = new boolean[MARKS];
        for (int i = 0; i < MARKS; i++) {
            marks[i] = new Day();
        }
        day.begin(told);
    }

    /** Promise 2. */
    public int feed(long a, long b, long c) {
        tape.addEight(a);
        tape.addEight(b);
        tape.addEight(c);
        return tape.length;
    }

    /** Promise 3. */
    public int mountain() {
        int fault = reader.readAll();
        tape.length = 0;
        if (fault != 0) {
            return fault;
        }
        told.copyFrom(reader.draft);
        routes.find(told);
        day.begin(told);
        undos = 0;
        for (int i = 0; i < MARKS; i++) {
            laid[i] = false;
        }
        forgetAnswers();
        return 0;
    }

    /** Promise 4. */
    public int station(int station, int what) {
        if (!told.hasStation(station)) {
            return NONE;
        }
        switch (what) {
            case 0: return told.high[station];
            case 1: return told.fall[station];
            case 2: return day.falls[station];
            default: return NONE;
        }
    }

    /** Promise 5. */
    public int way(int a, int b, int what) {
        if (!told.hasStation(a) || !told.hasStation(b) || !told.hasWay(a, b)) {
            return NONE;
        }
        switch (what) {
            case 0: return told.minutes[a * MOST_STATIONS + b];
            case 1: return told.thorns[a * MOST_STATIONS + b];
            default: return NONE;
        }
    }

    /** Promise 6. */
    public int carrier(int carrier, int what) throws NoSuchElementException {
        if (!told.hasCarrier(carrier)) {
            throw new NoSuchElementException("no such carrier");
        }
        switch (what) {
            case 0: return told.kind[carrier];
            case 1: return told.holds(carrier);
            case 2: return told.leak[carrier];
            case 3: return told.thirst[carrier];
            case 4: return day.patches[carrier];
            case 5: return day.gone[carrier];
            case 6: return day.paid[carrier];
            default: throw new NoSuchElementException("no such what");
        }
    }

    /** Promise 7. */
    public int paths() {
        return routes.size;
    }

    /** Promise 8. */
    public int path(int path, int i) {
        if (!routes.has(path) || i < 0 || i > routes.lastOf(path)) {
            return NONE;
        }
        return routes.stationAt(path, i);
    }

    /** Promise 9. */
    public int trip(int carrier, int path, int load, int what) {
        if (!canCarry(carrier, load) || !routes.has(path)) {
            return NONE;
        }
        walk.goAll(carrier, path, load, false);
        switch (what) {
            case 0: return walk.left;
            case 1: return walk.minutes;
            case 2: return walk.drunk;
            case 3: return walk.leaked;
            default: return NONE;
        }
    }

    /** Promise 10. */
    public int send(int carrier, int path, int load) {
        if (!canCarry(carrier, load) || !routes.has(path) || day.gone[carrier] != 0 || load > day.spring) {
            return NONE;
        }
        day.gone[carrier] = 1;
        day.spring -= load;
        walk.goAll(carrier, path, load, true);
        int brought = walk.left;
        day.paid[carrier] += walk.priceNow() * brought;
        day.above += brought;
        day.came++;
        return brought;
    }

    /** Promise 11. */
    public int rest() {
        int was = day.above;
        day.dawn(told);
        return was;
    }

    /** Promise 12. */
    public boolean seed(int seed) {
        if (seed < 0 || seed > MOST_SEED) {
            return false;
        }
        day.drawn = seed;
        return true;
    }

    /** Promise 13. */
    public int drank(int i, int what) {
        if (i < 0 || i >= day.booked) {
            return NONE;
        }
        switch (what) {
            case 0: return day.bookCarrier[i];
            case 1: return day.bookStation[i];
            case 2: return day.bookMouthfuls[i];
            default: return NONE;
        }
    }

    /** Promise 14. */
    public int best(int carrier, int load, int what) {
        if (!canCarry(carrier, load) || what < 0 || what > 1) {
            return NONE;
        }
        planner.findBest(carrier, load);
        return what == 0 ? planner.bestRoute : planner.bestLeft;
    }

    /** Promise 15. */
    public int plan(int what) {
        if (what < NONE || what >= 2 * told.carriers) {
            return -2;
        }
        planner.makeSure();
        if (what == NONE) {
            return planner.together;
        }
        return what % 2 == 0 ? planner.loads[what / 2] : planner.ways[what / 2];
    }

    /** Promise 16. */
    public int relay(int load, int what) {
        if (load < 0 || load > MOST_RELAY_LOAD || what < 0 || told.stations < 2
                || told.carriers > MOST_RELAY_CARRIERS) {
            return NONE;
        }
        handing.makeSure(load);
        switch (what) {
            case 0: return handing.mostLeft;
            case 1: return handing.bestRoute;
            default: return handing.holderOn(what - 2);
        }
    }

    /** Promise 17. */
    public boolean owe(int a, int b, int mouthfuls) {
        if (!isPair(a, b) || mouthfuls < 0 || mouthfuls > MOST_DEBT) {
            return false;
        }
        int place = a * MOST_CARRIERS + b;
        if (day.debts[place] == mouthfuls) {
            return false;
        }
        keepForUndo(place, day.debts[place]);
        day.debts[place] = mouthfuls;
        forgetAnswers();
        return true;
    }

    /** Promise 18. */
    public int owes(int a, int b) {
        return isPair(a, b) ? day.debts[a * MOST_CARRIERS + b] : NONE;
    }

    /** Promise 19. */
    public int debt(int carrier) throws NoSuchElementException {
        if (!told.hasCarrier(carrier)) {
            throw new NoSuchElementException("no such carrier");
        }
        return day.balance(carrier);
    }

    /** Promise 20. */
    public int settled() {
        return sets.fewestPayments(told, day);
    }

    /** Promise 21. */
    public int missed(int mouthfuls, int what) {
        if (mouthfuls < 0 || mouthfuls > MOST_MISSING || what < 0 || what > 1) {
            return NONE;
        }
        sets.judge(told, mouthfuls);
        return what == 0 ? sets.sets : sets.inAll;
    }

    /** Promise 22. */
    public int odds(int mouthfuls, int carrier, int what) {
        if (mouthfuls < 0 || mouthfuls > MOST_MISSING || !told.hasCarrier(carrier) || what < 0 || what > 1) {
            return NONE;
        }
        sets.judge(told, mouthfuls);
        return sets.inLowestTerms(carrier, what == 0);
    }

    /** Promise 23. */
    public boolean patch(int carrier, boolean patched) {
        int wanted = patched ? 1 : 0;
        if (!told.hasCarrier(carrier) || day.patches[carrier] == wanted) {
            return false;
        }
        keepForUndo(PATCH_PLACES + carrier, day.patches[carrier]);
        day.patches[carrier] = wanted;
        forgetAnswers();
        return true;
    }

    /** Promise 24. */
    public boolean undo() {
        if (undos == 0) {
            return false;
        }
        undos--;
        int place = undoPlaces[undos];
        if (place < PATCH_PLACES) {
            day.debts[place] = undoOlds[undos];
        } else {
            day.patches[place - PATCH_PLACES] = undoOlds[undos];
        }
        forgetAnswers();
        return true;
    }

    /** Promise 25. */
    public boolean mark(int mark, boolean back) {
        if (mark < 0 || mark >= MARKS || back && !laid[mark]) {
            return false;
        }
        if (back) {
            day.copyFrom(marks[mark]);
            undos = 0;
            forgetAnswers();
        } else {
            marks[mark].copyFrom(day);
            laid[mark] = true;
        }
        return true;
    }

    /** Promise 26. */
    public int count(int what) {
        switch (what) {
            case 0: return told.stations;
            case 1: return told.ways;
            case 2: return told.carriers;
            case 3: return day.above;
            case 4: return day.spring;
            case 5: return told.noon;
            case 6: return day.booked;
            case 7: return undos;
            case 8: return tape.length;
            default: return NONE;
        }
    }

    private boolean canCarry(int carrier, int load) {
        return told.hasCarrier(carrier) && load >= 0 && load <= told.holds(carrier);
    }

    private boolean isPair(int a, int b) {
        return told.hasCarrier(a) && told.hasCarrier(b) && a != b;
    }

    private void keepForUndo(int place, int old) {
        if (undos == MOST_UNDOS) {
            undos--;
            System.arraycopy(undoPlaces, 1, undoPlaces, 0, undos);
            System.arraycopy(undoOlds, 1, undoOlds, 0, undos);
        }
        undoPlaces[undos] = place;
        undoOlds[undos] = old;
        undos++;
    }

    /** PLAN and RELAY are dear: their answers are kept until a debt, a patch or the mountain changes. */
    private void forgetAnswers() {
        planner.stands = false;
        handing.stands = false;
    }

    /** What a token can be. The number of a FIXED or FREE word is its fact, of a KIND the kind, of a SIGN its step in a law. */
    private enum Word {
        STATION("station", Word.FIXED, NONE),
        HIGH("high", Word.FIXED, SkinCarriers.HIGH),
        FALL("fall", Word.FIXED, NONE),
        WAY("way", Word.FIXED, NONE),
        LONG("long", Word.FIXED, NONE),
        THORNS("thorns", Word.FIXED, NONE),
        CARRIER("carrier", Word.FIXED, NONE),
        SKIN("skin", Word.FIXED, NONE),
        LEAK("leak", Word.FIXED, NONE),
        THIRST("thirst", Word.FIXED, SkinCarriers.THIRST),
        OWES("owes", Word.FIXED, NONE),
        DRINK("drink", Word.FIXED, NONE),
        PRICE("price", Word.FIXED, NONE),
        FOG("fog", Word.FIXED, NONE),
        SPRING("spring", Word.FIXED, NONE),
        NOON("noon", Word.FIXED, NONE),
        PLAIN("plain", Word.KIND, SkinCarriers.PLAIN),
        GOAT("goat", Word.KIND, SkinCarriers.GOAT),
        MULE("mule", Word.KIND, SkinCarriers.MULE),
        COUSIN("cousin", Word.KIND, SkinCarriers.COUSIN),
        PATCHED("patched", Word.KIND, SkinCarriers.PATCHED),
        LICKER("licker", Word.KIND, SkinCarriers.LICKER),
        NOT("not", Word.SIGN, Laws.NOT),
        AND("and", Word.SIGN, Laws.AND),
        OR("or", Word.SIGN, Laws.OR),
        LESS("<", Word.SIGN, Laws.LESS),
        EQUAL("=", Word.SIGN, Laws.EQUAL),
        PLUS("+", Word.SIGN, Laws.PLUS),
        MINUS("-", Word.SIGN, Laws.MINUS),
        TIMES("*", Word.SIGN, Laws.TIMES),
        OPEN("(", Word.SIGN, Laws.OPEN),
        CLOSE(")", Word.SIGN, NONE),
        STOP(";", Word.SIGN, NONE),
        LEFT("left", Word.FREE, SkinCarriers.LEFT),
        MINUTE("minute", Word.FREE, SkinCarriers.MINUTE),
        DEBT("debt", Word.FREE, SkinCarriers.DEBT),
        ABOVE("above", Word.FREE, SkinCarriers.ABOVE),
        CAME("came", Word.FREE, SkinCarriers.CAME),
        NAME("", Word.FREE, NONE),
        NUMBER("", Word.OTHER, NONE),
        END("", Word.OTHER, NONE),
        NOTHING("", Word.OTHER, NONE);

        static final int FIXED = 0;
        static final int KIND = 1;
        static final int SIGN = 2;
        /** A word that no list keeps from being a NAME. */
        static final int FREE = 3;
        static final int OTHER = 4;

        private static final Word[] ALL = values();

        final String text;
        final int sort;
        final int number;

        Word(String text, int sort, int number) {
            this.text = text;
            this.sort = sort;
            this.number = number;
        }

        /** The word that these signs are; NAME if they are no other one. */
        static Word find(byte[] signs, int from, int to) {
            for (int i = 0; i < ALL.length; i++) {
                String text = ALL[i].text;
                int alike = 0;
                while (alike < text.length() && from + alike < to && text.charAt(alike) == signs[from + alike]) {
                    alike++;
                }
                if (alike == text.length() && from + alike == to) {
                    return ALL[i];
                }
            }
            return NAME;
        }

        boolean canName() {
            return sort == FREE;
        }

        int fact() {
            return sort == FIXED || sort == FREE ? number : NONE;
        }

        /** The step of a sign that joins two values; NONE of all others. */
        int joiner() {
            return sort == SIGN && Laws.rank(number) > 0 ? number : NONE;
        }
    }

    /** The TAPE, and the token on it that is looked at. */
    private static final class Tape {
        /** Above every letter: eight of them join into a long without loss. */
        private static final int LETTER_BASE = 128;
        private static final int MOST_LETTERS = 8;
        private static final int MOST_DIGITS = 4;

        private final byte[] signs = new byte[MOST_SIGNS];
        private int next;
        int length;
        Word token = Word.END;
        int place;
        int number;
        /** The letters of the word, joined: two words are alike if these are. */
        long letters;

        void addEight(long bytes) {
            for (int shift = 56; shift >= 0; shift -= 8) {
                int sign = (int) (bytes >>> shift) & 255;
                boolean fits = sign == 10 || sign >= 32 && sign <= 126;
                if (fits && length < MOST_SIGNS) {
                    signs[length] = (byte) sign;
                    length++;
                }
            }
        }

        void toStart() {
            next = 0;
            step();
        }

        /** To the next token. */
        void step() {
            while (next < length && (signs[next] == ' ' || signs[next] == 10)) {
                next++;
            }
            place = next;
            if (next >= length) {
                token = Word.END;
            } else if (isLetter(signs[next])) {
                readWord();
            } else if (isDigit(signs[next])) {
                readNumber();
            } else {
                next++;
                Word sign = Word.find(signs, place, next);
                token = sign == Word.NAME ? Word.NOTHING : sign;
            }
        }

        private void readWord() {
            letters = 0;
            while (next < length && isLetter(signs[next])) {
                letters = letters * LETTER_BASE + signs[next];
                next++;
            }
            token = next - place > MOST_LETTERS ? Word.NOTHING : Word.find(signs, place, next);
        }

        private void readNumber() {
            number = 0;
            while (next < length && isDigit(signs[next])) {
                number = number * 10 + (signs[next] - '0');
                next++;
            }
            token = next - place > MOST_DIGITS ? Word.NOTHING : Word.NUMBER;
        }

        private static boolean isLetter(byte sign) {
            return sign >= 'a' && sign <= 'z';
        }

        private static boolean isDigit(byte sign) {
            return sign >= '0' && sign <= '9';
        }
    }

    /** Reads the TAPE as a MOUNTAIN into a draft, so that a FAULT leaves the told one as it is. */
    private static final class Reader {
        private static final int CANT_STAND = 1;
        private static final int NOT_TOLD = 2;
        private static final int TOLD_ALREADY = 3;
        private static final int BAD_NUMBER = 4;
        private static final int TOO_MANY = 5;
        private static final int ONCE_DRINK = 1;
        private static final int ONCE_PRICE = 2;
        private static final int ONCE_FOG = 4;
        private static final int ONCE_SPRING = 8;
        private static final int ONCE_NOON = 16;

        private final Tape tape;
        private final Laws laws;
        private final long[] stationNames = new long[MOST_STATIONS];
        private final long[] carrierNames = new long[MOST_CARRIERS];
        private int fault;
        private int once;
        /** What the last reading helper that went well has read. */
        private int taken;
        final Mountain draft = new Mountain();

        Reader(Tape tape) {
            this.tape = tape;
            this.laws = new Laws(tape);
        }

        /** 0, or the FAULT. */
        int readAll() {
            draft.clear();
            fault = 0;
            once = 0;
            tape.toStart();
            for (int n = 0; n < MOST_SIGNS && tape.token != Word.END; n++) {
                Word first = tape.token;
                boolean isRead;
                if (first == Word.STATION) {
                    isRead = readStation();
                } else if (first == Word.WAY) {
                    isRead = readWay();
                } else if (first == Word.CARRIER) {
                    isRead = readCarrier();
                } else if (first == Word.OWES) {
                    isRead = readOwes();
                } else if (first == Word.DRINK || first == Word.PRICE) {
                    isRead = readLaw(first == Word.DRINK);
                } else if (first == Word.FOG || first == Word.SPRING || first == Word.NOON) {
                    isRead = readSetting(first);
                } else {
                    isRead = wrong(CANT_STAND);
                }
                if (!isRead || !take(Word.STOP)) {
                    return fault;
                }
            }
            return 0;
        }

        private boolean readStation() {
            int station = draft.stations;
            if (station >= MOST_STATIONS) {
                return wrong(TOO_MANY);
            }
            tape.step();
            if (!isNewName()) {
                return false;
            }
            stationNames[station] = tape.letters;
            tape.step();
            if (!take(Word.HIGH) || !takeNumber(0, 99)) {
                return false;
            }
            draft.high[station] = taken;
            if (!take(Word.FALL) || !takeNumber(0, 9)) {
                return false;
            }
            draft.fall[station] = taken;
            draft.stations++;
            return true;
        }

        private boolean readWay() {
            if (draft.ways >= MOST_WAYS) {
                return wrong(TOO_MANY);
            }
            tape.step();
            if (!takeTold(stationNames, draft.stations)) {
                return false;
            }
            int a = taken;
            if (!isTold(stationNames, draft.stations)) {
                return false;
            }
            int b = placeOf(stationNames, draft.stations);
            if (a == b || draft.hasWay(a, b)) {
                return wrong(TOLD_ALREADY);
            }
            tape.step();
            if (!take(Word.LONG) || !takeNumber(1, 99)) {
                return false;
            }
            int minutes = taken;
            if (!take(Word.THORNS) || !takeNumber(0, 9)) {
                return false;
            }
            draft.tellWay(a, b, minutes, taken);
            return true;
        }

        private boolean readCarrier() {
            int carrier = draft.carriers;
            if (carrier >= MOST_CARRIERS) {
                return wrong(TOO_MANY);
            }
            tape.step();
            if (!isNewName()) {
                return false;
            }
            carrierNames[carrier] = tape.letters;
            tape.step();
            if (tape.token.sort != Word.KIND) {
                return wrong(CANT_STAND);
            }
            draft.kind[carrier] = tape.token.number;
            tape.step();
            if (!take(Word.SKIN) || !takeNumber(1, MOST_SKIN)) {
                return false;
            }
            draft.skin[carrier] = taken;
            if (!take(Word.LEAK) || !takeNumber(0, 20)) {
                return false;
            }
            draft.leak[carrier] = taken;
            if (!take(Word.THIRST) || !takeNumber(0, 9)) {
                return false;
            }
            draft.thirst[carrier] = taken;
            draft.carriers++;
            return true;
        }

        private boolean readOwes() {
            tape.step();
            if (!takeTold(carrierNames, draft.carriers)) {
                return false;
            }
            int a = taken;
            if (!isTold(carrierNames, draft.carriers)) {
                return false;
            }
            int b = placeOf(carrierNames, draft.carriers);
            int debt = a * MOST_CARRIERS + b;
            if (a == b || draft.debts[debt] > 0) {
                return wrong(TOLD_ALREADY);
            }
            tape.step();
            if (!takeNumber(1, MOST_DEBT)) {
                return false;
            }
            draft.debts[debt] = taken;
            return true;
        }

        private boolean readLaw(boolean ofDrink) {
            if (!isFirst(ofDrink ? ONCE_DRINK : ONCE_PRICE)) {
                return false;
            }
            tape.step();
            int kind = laws.readLaw(ofDrink);
            if (kind != 0) {
                return wrong(kind);
            }
            if (ofDrink) {
                draft.drink = laws.made();
            } else {
                draft.price = laws.made();
            }
            return true;
        }

        private boolean readSetting(Word first) {
            if (!isFirst(first == Word.FOG ? ONCE_FOG : first == Word.SPRING ? ONCE_SPRING : ONCE_NOON)) {
                return false;
            }
            tape.step();
            int least = first == Word.NOON ? 1 : 0;
            int most = first == Word.FOG ? 99 : first == Word.SPRING ? MOST_SPRING : 999;
            if (!takeNumber(least, most)) {
                return false;
            }
            if (first == Word.FOG) {
                draft.fog = taken;
            } else if (first == Word.SPRING) {
                draft.spring = taken;
            } else {
                draft.noon = taken;
            }
            return true;
        }

        private boolean wrong(int kind) {
            fault = kind + 16 * tape.place;
            return false;
        }

        private boolean isFirst(int bit) {
            if ((once & bit) != 0) {
                return wrong(TOLD_ALREADY);
            }
            once |= bit;
            return true;
        }

        private boolean take(Word due) {
            if (tape.token != due) {
                return wrong(CANT_STAND);
            }
            tape.step();
            return true;
        }

        private boolean takeNumber(int least, int most) {
            if (tape.token != Word.NUMBER) {
                return wrong(CANT_STAND);
            }
            if (tape.number < least || tape.number > most) {
                return wrong(BAD_NUMBER);
            }
            taken = tape.number;
            tape.step();
            return true;
        }

        private boolean takeTold(long[] names, int size) {
            if (!isTold(names, size)) {
                return false;
            }
            taken = placeOf(names, size);
            tape.step();
            return true;
        }

        private boolean isTold(long[] names, int size) {
            if (!tape.token.canName()) {
                return wrong(CANT_STAND);
            }
            if (placeOf(names, size) == NONE) {
                return wrong(NOT_TOLD);
            }
            return true;
        }

        private boolean isNewName() {
            if (!tape.token.canName()) {
                return wrong(CANT_STAND);
            }
            if (placeOf(stationNames, draft.stations) != NONE || placeOf(carrierNames, draft.carriers) != NONE) {
                return wrong(TOLD_ALREADY);
            }
            return true;
        }

        private int placeOf(long[] names, int size) {
            for (int i = 0; i < size && i < names.length; i++) {
                if (names[i] == tape.letters) {
                    return i;
                }
            }
            return NONE;
        }
    }

    /** An E as a row of steps: a NUMBER is itself, a fact FACT and more, a sign is below NONE. */
    private static final class Laws {
        static final int FACT = 10000;
        static final int NOT = -2;
        static final int TIMES = -3;
        static final int PLUS = -4;
        static final int MINUS = -5;
        static final int LESS = -6;
        static final int EQUAL = -7;
        static final int AND = -8;
        static final int OR = -9;
        static final int OPEN = -10;
        /** Far above the four signs, or values, that can wait at each depth. */
        static final int MOST_WAITING = 64;
        private static final int RANK_OF_TEST = 2;
        private static final int DEEPEST = 5;

        private final Tape tape;
        private final int[] steps = new int[MOST_SIGNS];
        /** Signs whose right side has not been read yet. */
        private final int[] waiting = new int[MOST_WAITING];
        private int size;
        private int waits;
        private int brackets;
        private int depth;

        Laws(Tape tape) {
            this.tape = tape;
        }

        int[] made() {
            return Arrays.copyOf(steps, size);
        }

        /** 0, with the ; behind the E looked at, or the kind of the FAULT of the token looked at. */
        int readLaw(boolean ofDrink) {
            size = 0;
            waits = 0;
            brackets = 0;
            depth = 0;
            boolean wantsPart = true;
            for (int n = 0; n <= MOST_SIGNS; n++) {
                Word token = tape.token;
                if (wantsPart) {
                    if (!beginsPart(token, ofDrink)) {
                        return Reader.CANT_STAND;
                    }
                    if (depth >= DEEPEST) {
                        return Reader.TOO_MANY;
                    }
                    wantsPart = takePart(token);
                } else if (token == Word.STOP && brackets == 0) {
                    release(1);
                    return 0;
                } else if (token == Word.CLOSE && brackets > 0) {
                    takeClose();
                } else if (takeJoiner(token.joiner())) {
                    wantsPart = true;
                } else {
                    return Reader.CANT_STAND;
                }
                tape.step();
            }
            return Reader.CANT_STAND;
        }

        private static boolean beginsPart(Word token, boolean ofDrink) {
            if (token == Word.NUMBER || token == Word.NOT || token == Word.OPEN) {
                return true;
            }
            int fact = token.fact();
            return ofDrink ? fact >= THIRST && fact <= DEBT : fact >= ABOVE && fact <= CAME;
        }

        /** Whether a PART is still wanted behind this token. */
        private boolean takePart(Word token) {
            if (token == Word.NOT || token == Word.OPEN) {
                await(token.number);
                depth++;
                brackets += token == Word.OPEN ? 1 : 0;
                return true;
            }
            write(token == Word.NUMBER ? tape.number : FACT + token.fact());
            releaseNots();
            return false;
        }

        private void takeClose() {
            release(1);
            waits -= waits > 0 ? 1 : 0;
            brackets--;
            depth--;
            releaseNots();
        }

        private boolean takeJoiner(int step) {
            if (step == NONE) {
                return false;
            }
            int rank = rank(step);
            // A TEST has one < or = at most, so a waiting one is not joined but makes the second one wrong.
            release(rank == RANK_OF_TEST ? rank + 1 : rank);
            if (rank == RANK_OF_TEST && waits > 0 && rank(waiting[waits - 1]) == rank) {
                return false;
            }
            await(step);
            return true;
        }

        private void release(int leastRank) {
            while (waits > 0 && rank(waiting[waits - 1]) >= leastRank) {
                waits--;
                write(waiting[waits]);
            }
        }

        private void releaseNots() {
            while (waits > 0 && waiting[waits - 1] == NOT) {
                waits--;
                depth--;
                write(NOT);
            }
        }

        private void await(int step) {
            if (waits < MOST_WAITING) {
                waiting[waits] = step;
                waits++;
            }
        }

        private void write(int step) {
            if (size < MOST_SIGNS) {
                steps[size] = step;
                size++;
            }
        }

        /** How close a sign joins; 0 of what joins nothing. */
        static int rank(int step) {
            switch (step) {
                case TIMES: return 4;
                case PLUS:
                case MINUS: return 3;
                case LESS:
                case EQUAL: return RANK_OF_TEST;
                case AND:
                case OR: return 1;
                default: return 0;
            }
        }

        /** The values that wait stand in the row, which is lent. */
        static int valueOf(int[] law, int[] facts, int[] row) {
            int size = 0;
            for (int i = 0; i < law.length; i++) {
                int step = law[i];
                if (step >= 0) {
                    if (size < row.length && step - FACT < facts.length) {
                        row[size] = step < FACT ? step : facts[step - FACT];
                        size++;
                    }
                } else if (step == NOT) {
                    if (size > 0) {
                        row[size - 1] = row[size - 1] == 0 ? 1 : 0;
                    }
                } else if (size > 1) {
                    size--;
                    row[size - 1] = joined(step, row[size - 1], row[size]);
                }
            }
            return size > 0 ? row[0] : 0;
        }

        private static int joined(int step, int a, int b) {
            switch (step) {
                case TIMES: return a * b;
                case PLUS: return a + b;
                case MINUS: return a - b;
                case LESS: return a < b ? 1 : 0;
                case EQUAL: return a == b ? 1 : 0;
                case AND: return a != 0 && b != 0 ? 1 : 0;
                default: return a != 0 || b != 0 ? 1 : 0;
            }
        }
    }

    /** What was told of a MOUNTAIN; nothing of it changes until another one is told. */
    private static final class Mountain {
        private static final int[] PLAIN_DRINK = {Laws.FACT + SkinCarriers.THIRST};
        private static final int[] PLAIN_PRICE = {1};

        int stations;
        int ways;
        int carriers;
        final int[] high = new int[MOST_STATIONS];
        final int[] fall = new int[MOST_STATIONS];
        /** Row by row, both ways round; 0: no way. */
        final int[] minutes = new int[MOST_STATIONS * MOST_STATIONS];
        final int[] thorns = new int[MOST_STATIONS * MOST_STATIONS];
        final int[] kind = new int[MOST_CARRIERS];
        final int[] skin = new int[MOST_CARRIERS];
        final int[] leak = new int[MOST_CARRIERS];
        final int[] thirst = new int[MOST_CARRIERS];
        final int[] debts = new int[MOST_CARRIERS * MOST_CARRIERS];
        int[] drink = PLAIN_DRINK;
        int[] price = PLAIN_PRICE;
        int fog = 99;
        int spring = 60;
        int noon = 360;

        void clear() {
            stations = 0;
            ways = 0;
            carriers = 0;
            Arrays.fill(minutes, 0);
            Arrays.fill(debts, 0);
            drink = PLAIN_DRINK;
            price = PLAIN_PRICE;
            fog = 99;
            spring = 60;
            noon = 360;
        }

        void copyFrom(Mountain other) {
            stations = other.stations;
            ways = other.ways;
            carriers = other.carriers;
            System.arraycopy(other.high, 0, high, 0, high.length);
            System.arraycopy(other.fall, 0, fall, 0, fall.length);
            System.arraycopy(other.minutes, 0, minutes, 0, minutes.length);
            System.arraycopy(other.thorns, 0, thorns, 0, thorns.length);
            System.arraycopy(other.kind, 0, kind, 0, kind.length);
            System.arraycopy(other.skin, 0, skin, 0, skin.length);
            System.arraycopy(other.leak, 0, leak, 0, leak.length);
            System.arraycopy(other.thirst, 0, thirst, 0, thirst.length);
            System.arraycopy(other.debts, 0, debts, 0, debts.length);
            drink = other.drink;
            price = other.price;
            fog = other.fog;
            spring = other.spring;
            noon = other.noon;
        }

        boolean hasStation(int station) {
            return station >= 0 && station < stations;
        }

        boolean hasCarrier(int carrier) {
            return carrier >= 0 && carrier < carriers;
        }

        boolean hasWay(int a, int b) {
            return minutes[a * MOST_STATIONS + b] > 0;
        }

        void tellWay(int a, int b, int isLong, int hasThorns) {
            minutes[a * MOST_STATIONS + b] = isLong;
            minutes[b * MOST_STATIONS + a] = isLong;
            thorns[a * MOST_STATIONS + b] = hasThorns;
            thorns[b * MOST_STATIONS + a] = hasThorns;
            ways++;
        }

        int holds(int carrier) {
            return kind[carrier] == MULE ? 2 * skin[carrier] : skin[carrier];
        }
    }

    /** All PATHS, in order. */
    private static final class Routes {
        /** No 12 ways between 7 stations leave more. */
        private static final int MOST_ROUTES = 37;

        private final int[] rows = new int[MOST_ROUTES * MOST_STATIONS];
        private final int[] last = new int[MOST_ROUTES];
        private final int[] here = new int[MOST_STATIONS];
        int size;

        void find(Mountain mountain) {
            size = 0;
            if (mountain.stations > 0) {
                here[0] = 0;
                goOn(mountain, 0, 1);
            }
        }

        /** At the depth's station of the row here; those on it are the bits of passed. */
        private void goOn(Mountain mountain, int depth, int passed) {
            int at = here[depth];
            if (at == mountain.stations - 1) {
                keep(depth);
                return;
            }
            if (depth + 1 >= MOST_STATIONS) {
                return;
            }
            for (int to = 0; to < mountain.stations; to++) {
                if ((passed >> to & 1) == 0 && mountain.hasWay(at, to)) {
                    here[depth + 1] = to;
                    goOn(mountain, depth + 1, passed | 1 << to);
                }
            }
        }

        private void keep(int depth) {
            if (size < MOST_ROUTES) {
                System.arraycopy(here, 0, rows, size * MOST_STATIONS, depth + 1);
                last[size] = depth;
                size++;
            }
        }

        boolean has(int route) {
            return route >= 0 && route < size;
        }

        /** How many ways the route has: the place of the CITY on it. */
        int lastOf(int route) {
            return last[route];
        }

        int stationAt(int route, int i) {
            return rows[route * MOST_STATIONS + i];
        }
    }

    /** What changes on a MOUNTAIN: all that a MARK holds. */
    private static final class Day {
        private static final int MOST_BOOKED = 60;

        int above;
        int came;
        int spring;
        /** The g of the DRAWS. */
        long drawn;
        int booked;
        final int[] falls = new int[MOST_STATIONS];
        final int[] gone = new int[MOST_CARRIERS];
        final int[] paid = new int[MOST_CARRIERS];
        final int[] patches = new int[MOST_CARRIERS];
        final int[] debts = new int[MOST_CARRIERS * MOST_CARRIERS];
        final int[] bookCarrier = new int[MOST_BOOKED];
        final int[] bookStation = new int[MOST_BOOKED];
        final int[] bookMouthfuls = new int[MOST_BOOKED];

        /** The first day on a MOUNTAIN. */
        void begin(Mountain mountain) {
            dawn(mountain);
            drawn = 0;
            Arrays.fill(paid, 0);
            Arrays.fill(patches, 0);
            System.arraycopy(mountain.debts, 0, debts, 0, debts.length);
        }

        /** REST. */
        void dawn(Mountain mountain) {
            above = 0;
            came = 0;
            spring = mountain.spring;
            booked = 0;
            Arrays.fill(gone, 0);
            System.arraycopy(mountain.fall, 0, falls, 0, falls.length);
        }

        void copyFrom(Day other) {
            above = other.above;
            came = other.came;
            spring = other.spring;
            drawn = other.drawn;
            booked = other.booked;
            System.arraycopy(other.falls, 0, falls, 0, falls.length);
            System.arraycopy(other.gone, 0, gone, 0, gone.length);
            System.arraycopy(other.paid, 0, paid, 0, paid.length);
            System.arraycopy(other.patches, 0, patches, 0, patches.length);
            System.arraycopy(other.debts, 0, debts, 0, debts.length);
            System.arraycopy(other.bookCarrier, 0, bookCarrier, 0, booked);
            System.arraycopy(other.bookStation, 0, bookStation, 0, booked);
            System.arraycopy(other.bookMouthfuls, 0, bookMouthfuls, 0, booked);
        }

        int balance(int carrier) {
            int sum = 0;
            for (int i = 0; i < MOST_CARRIERS; i++) {
                sum += debts[carrier * MOST_CARRIERS + i] - debts[i * MOST_CARRIERS + carrier];
            }
            return sum;
        }

        int drawBelowFour() {
            drawn = (drawn * 1103515245L + 12345L) % 2147483648L;
            return (int) (drawn / 65536 % 4);
        }

        void write(int carrier, int station, int mouthfuls) {
            if (mouthfuls > 0 && booked < MOST_BOOKED) {
                bookCarrier[booked] = carrier;
                bookStation[booked] = station;
                bookMouthfuls[booked] = mouthfuls;
                booked++;
            }
        }
    }

    /** A skin on its way: what is in it and what became of the rest. */
    private static final class Walk {
        private final Mountain told;
        private final Day day;
        private final Routes routes;
        private final int[] facts = new int[FACTS];
        private final int[] row = new int[Laws.MOST_WAITING];
        int left;
        int minutes;
        int drunk;
        int leaked;

        Walk(Mountain told, Day day, Routes routes) {
            this.told = told;
            this.day = day;
            this.routes = routes;
        }

        /** A TRIP, or SENT by hand. */
        void goAll(int carrier, int route, int load, boolean isSent) {
            int last = routes.lastOf(route);
            left = load;
            minutes = 0;
            drunk = 0;
            leaked = 0;
            for (int i = 1; i <= last; i++) {
                int to = routes.stationAt(route, i);
                goOver(carrier, routes.stationAt(route, i - 1), to);
                if (i < last) {
                    if (isSent) {
                        gather(carrier, to);
                    }
                    int mouthfuls = drinkAt(carrier, to);
                    if (isSent) {
                        day.write(carrier, to, mouthfuls);
                    }
                }
            }
        }

        /** One way: minutes pass, and it leaks. */
        void goOver(int carrier, int from, int to) {
            int way = from * MOST_STATIONS + to;
            int isLong = told.minutes[way];
            int kind = told.kind[carrier];
            int drops = told.leak[carrier] * isLong / 10;
            if (kind == PATCHED || day.patches[carrier] != 0) {
                drops = drops / 2;
            }
            if (kind != GOAT) {
                drops += told.thorns[way];
            }
            drops = Math.min(drops, left);
            left -= drops;
            leaked += drops;
            minutes += kind == MULE ? isLong + isLong / 2 : isLong;
        }

        /** What a day's fog and falls put into the skin. */
        private void gather(int carrier, int station) {
            int holds = told.holds(carrier);
            if (told.high[station] >= told.fog) {
                int drops = day.drawBelowFour();
                if (told.kind[carrier] == LICKER) {
                    drops++;
                }
                left = Math.min(holds, left + drops);
            }
            int fallen = Math.min(day.falls[station], holds - left);
            day.falls[station] -= fallen;
            left += fallen;
        }

        int drinkAt(int carrier, int station) {
            int debt = day.balance(carrier);
            int kind = told.kind[carrier];
            if (kind == COUSIN && debt > 0) {
                return 0;
            }
            facts[THIRST] = told.thirst[carrier];
            facts[LEFT] = left;
            facts[HIGH] = told.high[station];
            facts[MINUTE] = minutes;
            facts[DEBT] = debt;
            // The ints of an E wrap, but a goat's twice is twice.
            long wanted = Laws.valueOf(told.drink, facts, row);
            if (kind == GOAT) {
                wanted = 2 * wanted;
            }
            int mouthfuls = (int) Math.max(0, Math.min(wanted, left));
            left -= mouthfuls;
            drunk += mouthfuls;
            return mouthfuls;
        }

        int priceNow() {
            facts[ABOVE] = day.above;
            facts[CAME] = day.came;
            return Math.max(0, Math.min(Laws.valueOf(told.price, facts, row), MOST_PRICE));
        }
    }

    /** BEST PATH and PLAN. */
    private static final class Planner {
        private static final int LOADS = 2 * MOST_SKIN + 1;
        private static final int SPRINGS = MOST_SPRING + 1;

        private final Mountain told;
        private final Routes routes;
        private final Walk walk;
        /** By carrier and load: what is left at best; NONE: none by noon. */
        private final int[] most = new int[MOST_CARRIERS * LOADS];
        /** By carrier and what the spring still gives: the most that this one and those behind it bring. */
        private final int[] from = new int[(MOST_CARRIERS + 1) * SPRINGS];
        final int[] loads = new int[MOST_CARRIERS];
        final int[] ways = new int[MOST_CARRIERS];
        int together;
        boolean stands;
        int bestRoute;
        int bestLeft;

        Planner(Mountain told, Routes routes, Walk walk) {
            this.told = told;
            this.routes = routes;
            this.walk = walk;
        }

        void findBest(int carrier, int load) {
            bestRoute = NONE;
            bestLeft = NONE;
            for (int route = 0; route < routes.size; route++) {
                walk.goAll(carrier, route, load, false);
                if (walk.minutes <= told.noon && walk.left > bestLeft) {
                    bestRoute = route;
                    bestLeft = walk.left;
                }
            }
        }

        void makeSure() {
            if (stands) {
                return;
            }
            Arrays.fill(from, 0);
            for (int carrier = told.carriers - 1; carrier >= 0; carrier--) {
                weighLoads(carrier);
                weighSprings(carrier);
            }
            together = from[told.spring];
            choose();
            stands = true;
        }

        private int mostLoad(int carrier, int spring) {
            return Math.min(told.holds(carrier), spring);
        }

        private void weighLoads(int carrier) {
            most[carrier * LOADS] = 0;
            for (int load = 1; load <= mostLoad(carrier, told.spring); load++) {
                findBest(carrier, load);
                most[carrier * LOADS + load] = bestLeft;
            }
        }

        private void weighSprings(int carrier) {
            for (int spring = 0; spring <= told.spring; spring++) {
                int best = 0;
                for (int load = 0; load <= mostLoad(carrier, spring); load++) {
                    best = Math.max(best, brought(carrier, load, spring));
                }
                from[carrier * SPRINGS + spring] = best;
            }
        }

        /** What this one brings with the load, and those behind it with the rest; NONE if it can't go. */
        private int brought(int carrier, int load, int spring) {
            int own = most[carrier * LOADS + load];
            return own == NONE ? NONE : own + from[(carrier + 1) * SPRINGS + spring - load];
        }

        private void choose() {
            int spring = told.spring;
            for (int carrier = 0; carrier < told.carriers; carrier++) {
                int load = leastLoad(carrier, spring);
                loads[carrier] = load;
                ways[carrier] = NONE;
                if (load > 0) {
                    findBest(carrier, load);
                    ways[carrier] = bestRoute;
                }
                spring -= load;
            }
        }

        private int leastLoad(int carrier, int spring) {
            for (int load = 0; load <= mostLoad(carrier, spring); load++) {
                if (brought(carrier, load, spring) == from[carrier * SPRINGS + spring]) {
                    return load;
                }
            }
            return 0;
        }
    }

    /** RELAY: all rows of carriers on all PATHS, in order, the first of the best ones kept. */
    private static final class Handing {
        private final Mountain told;
        private final Routes routes;
        private final Walk walk;
        private final int[] here = new int[MOST_STATIONS];
        private final int[] bestRow = new int[MOST_STATIONS];
        private int load;
        private int route;
        int bestRoute;
        int mostLeft;
        boolean stands;

        Handing(Mountain told, Routes routes, Walk walk) {
            this.told = told;
            this.routes = routes;
            this.walk = walk;
        }

        void makeSure(int wanted) {
            if (stands && load == wanted) {
                return;
            }
            load = wanted;
            bestRoute = NONE;
            mostLeft = NONE;
            for (int i = 0; i < routes.size; i++) {
                route = i;
                tryWay(0, NONE, 0, load, 0);
            }
            stands = true;
        }

        int holderOn(int way) {
            if (bestRoute == NONE || way < 0 || way >= routes.lastOf(bestRoute)) {
                return NONE;
            }
            return bestRow[way];
        }

        /** The depth is the way's place on the route; those who had the load are the bits of had. */
        private void tryWay(int depth, int holder, int had, int left, int minutes) {
            int last = routes.lastOf(route);
            if (depth >= last) {
                return;
            }
            int from = routes.stationAt(route, depth);
            int to = routes.stationAt(route, depth + 1);
            for (int carrier = 0; carrier < told.carriers; carrier++) {
                if (carrier != holder && (had >> carrier & 1) != 0) {
                    continue;
                }
                walk.left = Math.min(left, told.holds(carrier));
                walk.minutes = minutes;
                walk.goOver(carrier, from, to);
                if (walk.minutes > told.noon) {
                    continue;
                }
                here[depth] = carrier;
                if (depth + 1 == last) {
                    keepBetter(last);
                } else {
                    walk.drinkAt(carrier, to);
                    tryWay(depth + 1, carrier, had | 1 << carrier, walk.left, walk.minutes);
                }
            }
        }

        private void keepBetter(int ways) {
            if (walk.left > mostLeft) {
                mostLeft = walk.left;
                bestRoute = route;
                System.arraycopy(here, 0, bestRow, 0, ways);
            }
        }
    }

    /** What is told by going through all sets of carriers: MISSED and SETTLED. A set is the bits of those in it. */
    private static final class Sets {
        private final int[] setsWith = new int[MOST_CARRIERS];
        private final int[] sums = new int[1 << MOST_CARRIERS];
        /** By set: the most groups that can be made of it, each of which settles within itself. */
        private final int[] groups = new int[1 << MOST_CARRIERS];
        int sets;
        int inAll;

        /** The sets whose thirst makes up what is missing. */
        void judge(Mountain told, int mouthfuls) {
            int all = (1 << told.carriers) - 1;
            sets = 0;
            inAll = all;
            Arrays.fill(setsWith, 0);
            for (int set = 0; set <= all; set++) {
                if (thirstOf(told, set) == mouthfuls) {
                    sets++;
                    inAll &= set;
                    for (int carrier = 0; carrier < told.carriers; carrier++) {
                        setsWith[carrier] += set >> carrier & 1;
                    }
                }
            }
            if (sets == 0) {
                inAll = 0;
            }
        }

        private static int thirstOf(Mountain told, int set) {
            int sum = 0;
            for (int carrier = 0; carrier < told.carriers; carrier++) {
                if ((set >> carrier & 1) != 0) {
                    sum += told.thirst[carrier];
                }
            }
            return sum;
        }

        /** The odds that this one is in a set that was judged so, above or below the line; NONE: no set was. */
        int inLowestTerms(int carrier, boolean isAbove) {
            int above = setsWith[carrier];
            int common = sets;
            while (common > 1 && (above % common != 0 || sets % common != 0)) {
                common--;
            }
            if (common < 1) {
                return NONE;
            }
            return (isAbove ? above : sets) / common;
        }

        /** A group that settles within itself needs one payment less than it has carriers. */
        int fewestPayments(Mountain told, Day day) {
            int all = (1 << told.carriers) - 1;
            sums[0] = 0;
            groups[0] = 0;
            for (int set = 1; set <= all; set++) {
                int most = 0;
                for (int carrier = 0; carrier < told.carriers; carrier++) {
                    int bit = 1 << carrier;
                    if ((set & bit) != 0) {
                        sums[set] = sums[set ^ bit] + day.balance(carrier);
                        most = Math.max(most, groups[set ^ bit]);
                    }
                }
                groups[set] = sums[set] == 0 ? most + 1 : most;
            }
            return told.carriers - groups[all];
        }
    }
}
