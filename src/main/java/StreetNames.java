import java.util.Arrays;

/**
 * The names of a town and the numbers of its houses, as the document of this project promises it.
 *
 * A NAME and a KEY are held as one long, five bits a letter with the first one lowest, so that two of
 * them are the same when the numbers are; 0 is no NAME.
 */
public final class StreetNames {
    /** There is none; it is refused. */
    public static final int NONE = -1;
    /** More than can be told. */
    public static final int GREAT = -2;

    private static final int MOST_BYTES = 2000;
    /** Bytes that one feed() brings. */
    private static final int FED = 20;
    private static final int MOST_STREETS = 10;
    private static final int MOST_POOL = 12;
    private static final int MOST_TOLD_ALIASES = 12;
    private static final int MOST_ALIASES = 30;
    private static final int MOST_HOUSES = 12;
    private static final int MOST_GROUPS = 8;
    private static final int MOST_PAIRS = 8;
    private static final int MOST_LETTERS = 10;
    private static final int ALPHABET = 26;
    private static final int MOST_NEAR = 3;
    private static final int MOST_LAST = 99;
    private static final int MOST_STEP = 99;
    private static final int MOST_YARDS = 9999;
    private static final int MOST_NUMBER = 999;
    private static final int MOST_YEAR = 999;
    private static final int MOST_YEARS = 99;
    private static final int MOST_ACTS = 20;
    private static final int IMAGES = 2;
    private static final int SIDES = 2;
    private static final long MOST_COST = 9223372036854775807L;

    private static final int OF_STREETS = 0;
    private static final int OF_POOL = 1;
    private static final int OF_ALIASES = 2;

    private static final int REFUSED_TAPE = 0;
    private static final int REFUSED_TOWN = 1;
    private static final int REFUSED_ACT = 2;
    private static final int REFUSED_UNDO = 3;
    private static final int REFUSED_IMAGE = 4;
    private static final int REFUSALS = 5;

    /** The OWN WORDS, each filled up to OWN_WIDTH signs, so that its number tells where it stands. */
    private static final String OWN_WORDS =
        "near  last  step  mute  same  pair  streethouse left  right alias of    pool  ";
    private static final int OWN_WIDTH = 6;
    private static final int OWN_COUNT = 13;
    private static final int WORD_NEAR = 0;
    private static final int WORD_LAST = 1;
    private static final int WORD_STEP = 2;
    private static final int WORD_MUTE = 3;
    private static final int WORD_SAME = 4;
    private static final int WORD_PAIR = 5;
    private static final int WORD_STREET = 6;
    private static final int WORD_HOUSE = 7;
    private static final int WORD_LEFT = 8;
    private static final int WORD_RIGHT = 9;
    private static final int WORD_ALIAS = 10;
    private static final int WORD_OF = 11;
    private static final int WORD_POOL = 12;

    private final Tape tape;
    private final Reader reader;
    private final Ear ear;
    private final Planner planner;
    private final Numbering numbering;
    private final Town now;
    private final Past past;
    /** Made when first asked for: most objects keep no image. */
    private final Town[] images;
    private final int[] refused;
    private int latestFault;
    private int latestPlace;
    private long latestHeard;

    public StreetNames() {
        tape = new Tape();
        reader = new Reader(tape);
        ear = new Ear();
        planner = new Planner();
        numbering = new Numbering();
        now = new Town();
        past = new Past();
        images = new Town[IMAGES];
        refused = new int[REFUSALS];
        latestFault = 0;
        latestPlace = NONE;
        latestHeard = 0L;
    }

    // ---- the tape, the town

    public int feed(int a, int b, int c, int d, int e) {
        if (!tape.hasRoom()) {
            return refuse(REFUSED_TAPE);
        }
        tape.put(a);
        tape.put(b);
        tape.put(c);
        tape.put(d);
        tape.put(e);
        return tape.length;
    }

    public boolean end(int n) {
        if (n < 0 || n > tape.length) {
            refuse(REFUSED_TAPE);
            return false;
        }
        tape.length = n;
        return true;
    }

    public int town() {
        reader.readTown();
        tape.length = 0;
        latestFault = reader.fault;
        latestPlace = reader.place;
        if (latestFault != 0) {
            return refuse(REFUSED_TOWN);
        }
        becomes(reader.draft);
        return now.streets.count;
    }

    public int fault(int what) {
        switch (what) {
            case 0: return latestFault;
            case 1: return latestPlace;
            default: return NONE;
        }
    }

    public int has(int what) {
        switch (what) {
            case 0: return now.streets.count;
            case 1: return now.pool.count;
            case 2: return now.aliases.count;
            case 3: return now.homes.ofAll();
            case 4: return now.year;
            case 5: return now.rules.near;
            case 6: return now.rules.last;
            case 7: return now.rules.step;
            case 8: return now.rules.groups;
            case 9: return now.rules.pairs;
            case 10: return Integer.bitCount(now.rules.mute);
            case 11: return past.count;
            default: return NONE;
        }
    }

    // ---- names

    public int letter(int kind, int k, int i) {
        Names names = now.ofKind(kind);
        if (names == null || !names.holds(k) || i < 0 || i >= MOST_LETTERS) {
            return NONE;
        }
        return Word.letterAt(names.word[k], i);
    }

    public int key(int kind, int k, int i) {
        Names names = now.ofKind(kind);
        if (names == null || !names.holds(k) || i < 0 || i >= MOST_LETTERS) {
            return NONE;
        }
        return Word.letterAt(names.sound[k], i);
    }

    public int changes(int kind, int k, int other, int n) {
        Names one = now.ofKind(kind);
        Names two = now.ofKind(other);
        if (one == null || two == null || !one.holds(k) || !two.holds(n)) {
            return NONE;
        }
        return ear.distance(one.word[k], two.word[n]);
    }

    public int alike(int kind, int k, int other, int n) {
        Names one = now.ofKind(kind);
        Names two = now.ofKind(other);
        if (one == null || two == null || !one.holds(k) || !two.holds(n)) {
            return NONE;
        }
        int bySound = one.sound[k] == two.sound[n] ? 1 : 0;
        int byLetters = Word.isWithin(one.word[k], two.word[n], now.rules.near) ? 2 : 0;
        return bySound + byLetters;
    }

    public int alias(int k, int what) {
        if (!now.aliases.holds(k)) {
            return NONE;
        }
        switch (what) {
            case 0: return now.aliasStreet[k];
            case 1: return now.aliasLast[k];
            case 2: return now.isLive(k) ? 1 : 0;
            default: return NONE;
        }
    }

    public int heard() {
        long word = wordOnTape();
        if (word == 0L) {
            return NONE;
        }
        latestHeard = now.rules.soundOf(word);
        return Word.lengthOf(latestHeard);
    }

    public int heardAt(int i) {
        if (i < 0 || i >= Word.lengthOf(latestHeard)) {
            return NONE;
        }
        return Word.letterAt(latestHeard, i);
    }

    public int find() {
        long word = wordOnTape();
        if (word == 0L) {
            return NONE;
        }
        int street = now.streets.placeOf(word);
        if (street != NONE) {
            return 100 + street;
        }
        int alias = now.liveAlias(word);
        if (alias != NONE) {
            return 200 + now.aliasStreet[alias];
        }
        return meantByLikeness(word);
    }

    public int fades() {
        long word = wordOnTape();
        if (word == 0L || now.streets.placeOf(word) != NONE || meantByLikeness(word) != NONE) {
            return NONE;
        }
        int first = now.year;
        for (int k = 0; k < now.aliases.count; k++) {
            if (now.aliases.word[k] == word) {
                first = Math.max(first, now.aliasLast[k] + 1);
            }
        }
        return first <= MOST_YEAR ? first : NONE;
    }

    public int nearest(int kind, int k, int what) {
        Names names = now.ofKind(kind);
        if (names == null || !names.holds(k) || what < 0 || what > 1) {
            return NONE;
        }
        long word = names.word[k];
        int fewest = MOST_LETTERS + 1;
        int first = NONE;
        for (int s = 0; s < now.streets.count; s++) {
            if (kind == OF_STREETS && s == k) {
                continue;
            }
            int apart = ear.distance(word, now.streets.word[s]);
            if (apart < fewest) {
                fewest = apart;
                first = s;
            }
        }
        return first == NONE || what == 0 ? first : fewest;
    }

    // ---- clashes

    public int clash(int k) {
        if (k < NONE) {
            return NONE;
        }
        planner.learnClashes(now);
        int many = 0;
        for (int s = 0; s < now.streets.count; s++) {
            for (int t = s + 1; t < now.streets.count; t++) {
                if (planner.isClash(s, t)) {
                    if (many == k) {
                        return 100 * s + t;
                    }
                    many++;
                }
            }
        }
        return k == NONE ? many : NONE;
    }

    public int circle(int street) {
        if (!now.streets.holds(street)) {
            return NONE;
        }
        planner.learnClashes(now);
        return planner.circleOf(street, now.streets.count);
    }

    public int why(int street, int k) {
        if (!now.streets.holds(street) || !now.pool.holds(k)) {
            return NONE;
        }
        long word = now.pool.word[k];
        if (now.streets.placeOf(word) != NONE) {
            return 1;
        }
        for (int s = 0; s < now.streets.count; s++) {
            if (s != street && now.areAlike(now.pool, k, now.streets, s)) {
                return 2;
            }
        }
        for (int a = 0; a < now.aliases.count; a++) {
            if (now.isLiveOfAnother(a, street) && now.areAlike(now.pool, k, now.aliases, a)) {
                return 3;
            }
        }
        return now.aliases.count < MOST_ALIASES ? 0 : 4;
    }

    public int takes(int street, int k) {
        if (!now.streets.holds(street) || k < NONE) {
            return NONE;
        }
        int many = 0;
        for (int p = 0; p < now.pool.count; p++) {
            if (why(street, p) == 0) {
                if (many == k) {
                    return p;
                }
                many++;
            }
        }
        return k == NONE ? many : NONE;
    }

    public int plan(int what) {
        planner.learnPlan(now);
        if (planner.chosen == NONE) {
            return NONE;
        }
        switch (what) {
            case 0: return Integer.bitCount(planner.chosen);
            case 1: return now.homes.ofSet(planner.chosen);
            case 2: return planner.chosen;
            default: return NONE;
        }
    }

    public int planned(int street) {
        if (!now.streets.holds(street)) {
            return NONE;
        }
        planner.learnPlan(now);
        return planner.isChosen(street) ? planner.given[street] : NONE;
    }

    public int least() {
        planner.learnClashes(now);
        return planner.fewestLeft(now.streets.count);
    }

    // ---- houses

    public int houses(int street) {
        return now.streets.holds(street) ? now.homes.count[street] : NONE;
    }

    public int house(int street, int h, int what) {
        if (!isHouse(street, h)) {
            return NONE;
        }
        int slot = Homes.slot(street, h);
        int side = now.homes.side[slot];
        int yards = now.homes.yards[slot];
        switch (what) {
            case 0: return side;
            case 1: return yards;
            case 2: return now.homes.number[slot];
            case 3: return Numbering.lowOf(side, yards, now.rules.step);
            case 4: return now.homes.before(street, side, yards);
            default: return NONE;
        }
    }

    public int at(int street, int number) {
        if (!now.streets.holds(street)) {
            return NONE;
        }
        for (int h = 0; h < now.homes.count[street]; h++) {
            if (now.homes.number[Homes.slot(street, h)] == number) {
                return h;
            }
        }
        return NONE;
    }

    public int ordered(int street) {
        if (!now.streets.holds(street)) {
            return NONE;
        }
        return numbering.isInOrder(now.homes, street, now.rules.step) ? 1 : 0;
    }

    public int fewest(int street) {
        return stepped(street, now.rules.step);
    }

    public int then(int street, int h) {
        if (!isHouse(street, h) || fewest(street) == NONE) {
            return NONE;
        }
        return numbering.due[h];
    }

    public int would(int street, int side, int yards) {
        if (!now.streets.holds(street) || side < 0 || side >= SIDES || yards < 0 || yards > MOST_YARDS) {
            return NONE;
        }
        if (now.homes.count[street] >= MOST_HOUSES || now.homes.isTaken(street, side, yards)) {
            return NONE;
        }
        return Numbering.fitting(now.homes, street, side, yards, now.rules.step);
    }

    public int stepped(int street, int step) {
        if (!now.streets.holds(street) || step < 1 || step > MOST_STEP) {
            return NONE;
        }
        return numbering.settle(now.homes, street, step);
    }

    public int gaps(int street, int side) {
        if (!now.streets.holds(street) || side < 0 || side >= SIDES) {
            return NONE;
        }
        return Numbering.unused(now.homes, street, side);
    }

    // ---- acts

    public int take(int street, int k) {
        if (why(street, k) != 0) {
            return refuse(REFUSED_ACT);
        }
        remember();
        now.rename(street, k);
        return now.aliases.count;
    }

    public int carry() {
        planner.learnPlan(now);
        if (planner.chosen == NONE || planner.aliasesBehind(now) > MOST_ALIASES) {
            return refuse(REFUSED_ACT);
        }
        remember();
        for (int s = 0; s < now.streets.count; s++) {
            if (planner.isChosen(s)) {
                now.rename(s, planner.given[s]);
            }
        }
        return Integer.bitCount(planner.chosen);
    }

    public int renumber(int street) {
        int many = fewest(street);
        if (many == NONE) {
            return refuse(REFUSED_ACT);
        }
        remember();
        for (int h = 0; h < now.homes.count[street]; h++) {
            now.homes.number[Homes.slot(street, h)] = numbering.due[h];
        }
        return many;
    }

    public int build(int street, int side, int yards) {
        int number = would(street, side, yards);
        if (number == NONE) {
            return refuse(REFUSED_ACT);
        }
        remember();
        now.homes.add(street, side, yards, number);
        return number;
    }

    public int tear(int street, int h) {
        if (!isHouse(street, h)) {
            return refuse(REFUSED_ACT);
        }
        remember();
        now.homes.drop(street, h);
        return now.homes.count[street];
    }

    public int years(int n) {
        if (n < 1 || n > MOST_YEARS || now.year + n > MOST_YEAR) {
            return refuse(REFUSED_ACT);
        }
        remember();
        now.pass(n);
        return now.year;
    }

    public boolean undo() {
        if (past.count == 0) {
            refuse(REFUSED_UNDO);
            return false;
        }
        past.bringBack(now);
        planner.forget();
        return true;
    }

    // ---- costs, images

    public long cost(int street, long rate) {
        if (!now.streets.holds(street) || rate < 0L) {
            return NONE;
        }
        return times(now.lettersOnHouses(street), rate);
    }

    public long bill(long rate) {
        planner.learnPlan(now);
        if (planner.chosen == NONE || rate < 0L) {
            return NONE;
        }
        int letters = 0;
        for (int s = 0; s < now.streets.count; s++) {
            if (planner.isChosen(s)) {
                letters += now.lettersOnHouses(s);
            }
        }
        return times(letters, rate);
    }

    public boolean keep(int k) {
        if (k < 0 || k >= IMAGES) {
            refuse(REFUSED_IMAGE);
            return false;
        }
        if (images[k] == null) {
            images[k] = new Town();
        }
        images[k].copyFrom(now);
        return true;
    }

    public boolean back(int k) {
        if (k < 0 || k >= IMAGES || images[k] == null) {
            refuse(REFUSED_IMAGE);
            return false;
        }
        becomes(images[k]);
        return true;
    }

    public int status(int what) {
        return what >= 0 && what < REFUSALS ? refused[what] : NONE;
    }

    // ---- what several calls need

    private int refuse(int what) {
        refused[what]++;
        return NONE;
    }

    private void becomes(Town other) {
        now.copyFrom(other);
        past.count = 0;
        planner.forget();
    }

    /** Stands ahead of every ACT: what the planner knows holds for the town as it was. */
    private void remember() {
        past.store(now);
        planner.forget();
    }

    private boolean isHouse(int street, int h) {
        return now.streets.holds(street) && h >= 0 && h < now.homes.count[street];
    }

    /** What stands on the tape, which goes; 0 if it is none that could be a NAME. */
    private long wordOnTape() {
        long word = tape.wordAt(0, tape.length);
        tape.length = 0;
        return tape.ownWord(word) == NONE ? word : 0L;
    }

    /** Who is meant by a word that is nobody's just so. */
    private int meantByLikeness(long word) {
        long sound = now.rules.soundOf(word);
        for (int s = 0; s < now.streets.count; s++) {
            if (now.streets.sound[s] == sound) {
                return 300 + s;
            }
        }
        int fewest = now.rules.near + 1;
        int found = NONE;
        for (int s = 0; s < now.streets.count; s++) {
            int apart = ear.distance(word, now.streets.word[s]);
            if (apart < fewest) {
                fewest = apart;
                found = 400 + s;
            }
        }
        return found;
    }

    private static long times(int many, long rate) {
        if (many <= 0) {
            return 0L;
        }
        return rate > MOST_COST / many ? GREAT : many * rate;
    }

    /** Words as numbers, five bits a letter. */
    private static final class Word {
        private static final int BITS = 5;
        private static final int MASK = 31;

        static int letterAt(long word, int i) {
            return i < 0 || i >= MOST_LETTERS ? 0 : (int) (word >> BITS * i) & MASK;
        }

        static long letterPut(int letter, int i) {
            return (long) letter << BITS * i;
        }

        static int lengthOf(long word) {
            int length = 0;
            while (length < MOST_LETTERS && letterAt(word, length) != 0) {
                length++;
            }
            return length;
        }

        /** Whether so many CHANGES at most make the one the other. To change like beginnings never helps. */
        private static boolean isWithin(long one, long two, int most) {
            long a = one;
            long b = two;
            for (int i = 0; i < MOST_LETTERS && (a & MASK) == (b & MASK); i++) {
                a >>= BITS;
                b >>= BITS;
            }
            if (a == b || most <= 0) {
                return a == b;
            }
            long restOfA = a >> BITS;
            long restOfB = b >> BITS;
            return isWithin(restOfA, restOfB, most - 1) || isWithin(restOfA, b, most - 1)
                || isWithin(a, restOfB, most - 1);
        }
    }

    /** The bytes that were fed, and the words that stand in them. */
    private static final class Tape {
        final byte[] bytes = new byte[MOST_BYTES];
        int length;
        private final long[] ownWords = new long[OWN_COUNT];

        Tape() {
            for (int i = 0; i < OWN_COUNT * OWN_WIDTH; i++) {
                char sign = OWN_WORDS.charAt(i);
                if (sign != ' ') {
                    ownWords[i / OWN_WIDTH] |= Word.letterPut(sign - 'a' + 1, i % OWN_WIDTH);
                }
            }
        }

        boolean hasRoom() {
            return length + FED <= MOST_BYTES;
        }

        void put(int number) {
            for (int shift = 24; shift >= 0 && length < MOST_BYTES; shift -= 8) {
                bytes[length] = (byte) (number >> shift);
                length++;
            }
        }

        /** 1 .. 26; 0 for what is no letter. */
        int letterAt(int i) {
            int sign = i >= 0 && i < length ? bytes[i] : NONE;
            return sign >= 'a' && sign <= 'z' ? sign - 'a' + 1 : 0;
        }

        /** The word of a NAME's length that stands there; 0 if it is none. */
        long wordAt(int from, int size) {
            if (size < 1 || size > MOST_LETTERS) {
                return 0L;
            }
            long word = 0L;
            for (int i = 0; i < size; i++) {
                int letter = letterAt(from + i);
                if (letter == 0) {
                    return 0L;
                }
                word |= Word.letterPut(letter, i);
            }
            return word;
        }

        /** Which OWN WORD it is. */
        int ownWord(long word) {
            for (int w = 0; w < OWN_COUNT; w++) {
                if (ownWords[w] == word) {
                    return w;
                }
            }
            return NONE;
        }
    }

    /** Makes a town of the tape, or tells the first FAULT. */
    private static final class Reader {
        private static final int END = 0;
        private static final int WORD = 1;
        private static final int NUMBER = 2;
        private static final int STOP = 3;
        private static final int OTHER = 4;
        private static final int BLANK = 5;
        private static final int MOST_DIGITS = 4;
        /** The KEY of a NAME while rules may still be told. */
        private static final long UNHEARD = 0L;

        final Town draft = new Town();
        int fault;
        int place;
        private final Tape tape;
        /** The sign that is looked at: a word, a number or a byte, where it stands and how long it is. */
        private int kind;
        private int start;
        private int size;
        /** It as a word of a NAME's length (0 if it is none), and which OWN WORD it is. */
        private long word;
        private int own;
        /** OWN WORDS that were told, as bits. */
        private int told;

        Reader(Tape from) {
            tape = from;
        }

        void readTown() {
            draft.clear();
            fault = 0;
            place = NONE;
            told = 0;
            kind = END;
            start = 0;
            size = 0;
            boolean goesOn = true;
            step();
            for (int i = 0; i < MOST_BYTES && goesOn && kind != END; i++) {
                goesOn = readStatement();
                step();
            }
            if (fault == 0) {
                draft.settle();
            }
        }

        /** Goes to the next sign. A word and a number that touch are no text, so the second is OTHER. */
        private void step() {
            boolean mayTouch = isLong();
            int from = start + size;
            start = from;
            while (start < tape.length && kindAt(start) == BLANK) {
                start++;
            }
            kind = kindAt(start);
            size = kind == END ? 0 : 1;
            while (isLong() && start + size < tape.length && kindAt(start + size) == kind) {
                size++;
            }
            if (mayTouch && start == from && isLong()) {
                kind = OTHER;
            }
            word = kind == WORD ? tape.wordAt(start, size) : 0L;
            own = tape.ownWord(word);
        }

        private int kindAt(int i) {
            if (i < 0 || i >= tape.length) {
                return END;
            }
            int sign = tape.bytes[i];
            if (sign == ' ' || sign == '\n') {
                return BLANK;
            }
            if (sign == ';') {
                return STOP;
            }
            if (sign >= '0' && sign <= '9') {
                return NUMBER;
            }
            return tape.letterAt(i) != 0 ? WORD : OTHER;
        }

        private boolean isLong() {
            return kind == WORD || kind == NUMBER;
        }

        private boolean fails(int which) {
            fault = which;
            place = start;
            return false;
        }

        private boolean readStatement() {
            switch (own) {
                case WORD_NEAR:
                case WORD_LAST:
                case WORD_STEP:
                    return readSetting(own) && readStop();
                case WORD_MUTE: return readMute() && readStop();
                case WORD_SAME: return readSame() && readStop();
                case WORD_PAIR: return readPair() && readStop();
                case WORD_STREET: return readStreet() && readStop();
                case WORD_HOUSE: return readHouse() && readStop();
                case WORD_ALIAS: return readAlias() && readStop();
                case WORD_POOL: return readPool();
                default: return fails(1);
            }
        }

        private boolean readStop() {
            step();
            return kind == STOP || fails(1);
        }

        private boolean readSetting(int which) {
            if (!isFirst()) {
                return false;
            }
            step();
            if (!isNumber()) {
                return false;
            }
            int value = number();
            switch (which) {
                case WORD_NEAR:
                    draft.rules.near = value;
                    return value <= MOST_NEAR || fails(2);
                case WORD_LAST:
                    draft.rules.last = value;
                    return value <= MOST_LAST || fails(2);
                default:
                    draft.rules.step = value;
                    return value >= 1 && value <= MOST_STEP || fails(2);
            }
        }

        private boolean readMute() {
            if (!isFirst()) {
                return false;
            }
            step();
            if (!areLetters(1, ALPHABET)) {
                return false;
            }
            draft.rules.mute = letterBits();
            return areUnlike() || fails(3);
        }

        private boolean readSame() {
            if (draft.rules.groups >= MOST_GROUPS) {
                return fails(4);
            }
            step();
            if (!areLetters(2, ALPHABET)) {
                return false;
            }
            if (!areUnlike() || (letterBits() & draft.rules.grouped()) != 0) {
                return fails(3);
            }
            draft.rules.addGroup(tape.letterAt(start), letterBits());
            return true;
        }

        private boolean readPair() {
            if (draft.rules.pairs >= MOST_PAIRS) {
                return fails(4);
            }
            step();
            if (!areLetters(2, 2)) {
                return false;
            }
            int first = tape.letterAt(start);
            int second = tape.letterAt(start + 1);
            if (draft.rules.pairOf(first, second) != 0) {
                return fails(3);
            }
            step();
            if (!areLetters(1, 1)) {
                return false;
            }
            draft.rules.addPair(first, second, tape.letterAt(start));
            return true;
        }

        private boolean readStreet() {
            if (draft.streets.isFull()) {
                return fails(4);
            }
            step();
            if (!isNewName()) {
                return false;
            }
            draft.streets.add(word, UNHEARD);
            return true;
        }

        private boolean readHouse() {
            step();
            if (!isStreetName()) {
                return false;
            }
            int street = draft.streets.placeOf(word);
            if (draft.homes.count[street] >= MOST_HOUSES) {
                return fails(4);
            }
            step();
            if (own != WORD_LEFT && own != WORD_RIGHT) {
                return fails(1);
            }
            int side = own == WORD_LEFT ? 0 : 1;
            step();
            if (!isNumber()) {
                return false;
            }
            int yards = number();
            if (draft.homes.isTaken(street, side, yards)) {
                return fails(3);
            }
            step();
            if (!isNumber()) {
                return false;
            }
            int number = number();
            if (number < 1 || number > MOST_NUMBER) {
                return fails(2);
            }
            draft.homes.add(street, side, yards, number);
            return true;
        }

        private boolean readAlias() {
            if (draft.aliases.count >= MOST_TOLD_ALIASES) {
                return fails(4);
            }
            step();
            if (!isNewName()) {
                return false;
            }
            long name = word;
            step();
            if (own != WORD_OF) {
                return fails(1);
            }
            step();
            if (!isStreetName()) {
                return false;
            }
            draft.addAlias(name, UNHEARD, draft.streets.placeOf(word), 0);
            return true;
        }

        private boolean readPool() {
            for (int i = 0; i <= MOST_POOL; i++) {
                step();
                if (i > 0 && kind == STOP) {
                    return true;
                }
                if (!isNewName()) {
                    return false;
                }
                if (draft.pool.isFull()) {
                    return fails(4);
                }
                draft.pool.add(word, UNHEARD);
            }
            return fails(4);
        }

        private boolean isFirst() {
            if ((told >> own & 1) == 1) {
                return fails(1);
            }
            told |= 1 << own;
            return true;
        }

        private boolean isNumber() {
            return kind == NUMBER && size <= MOST_DIGITS || fails(1);
        }

        private int number() {
            int value = 0;
            for (int i = start; i < start + size && i < tape.length; i++) {
                value = 10 * value + tape.bytes[i] - '0';
            }
            return value;
        }

        private boolean areLetters(int least, int most) {
            return kind == WORD && size >= least && size <= most || fails(1);
        }

        private boolean isName() {
            return word != 0L && own == NONE || fails(1);
        }

        private boolean isStreetName() {
            return isName() && (draft.streets.placeOf(word) != NONE || fails(3));
        }

        private boolean isNewName() {
            return isName() && (!draft.knows(word) || fails(3));
        }

        private int letterBits() {
            int bits = 0;
            for (int i = start; i < start + size; i++) {
                bits |= 1 << tape.letterAt(i);
            }
            return bits;
        }

        private boolean areUnlike() {
            return Integer.bitCount(letterBits()) == size;
        }
    }

    /** What is told of letters and numbers. Letters are 1 .. 26, sets of them are bits. */
    private static final class Rules {
        int near;
        int last;
        int step;
        int mute;
        int groups;
        int pairs;
        private final int[] groupHead = new int[MOST_GROUPS];
        private final int[] groupBits = new int[MOST_GROUPS];
        private final int[] pairFirst = new int[MOST_PAIRS];
        private final int[] pairSecond = new int[MOST_PAIRS];
        private final int[] pairOne = new int[MOST_PAIRS];

        Rules() {
            clear();
        }

        void clear() {
            near = 1;
            last = 10;
            step = 10;
            mute = 0;
            groups = 0;
            pairs = 0;
        }

        void addGroup(int head, int bits) {
            if (groups < MOST_GROUPS) {
                groupHead[groups] = head;
                groupBits[groups] = bits;
                groups++;
            }
        }

        void addPair(int first, int second, int one) {
            if (pairs < MOST_PAIRS) {
                pairFirst[pairs] = first;
                pairSecond[pairs] = second;
                pairOne[pairs] = one;
                pairs++;
            }
        }

        int grouped() {
            int bits = 0;
            for (int g = 0; g < groups; g++) {
                bits |= groupBits[g];
            }
            return bits;
        }

        private int headOf(int letter) {
            for (int g = 0; g < groups; g++) {
                if ((groupBits[g] >> letter & 1) == 1) {
                    return groupHead[g];
                }
            }
            return letter;
        }

        /** The letter that comes in place of both; 0 when the two are no pair. */
        int pairOf(int first, int second) {
            for (int p = 0; p < pairs; p++) {
                if (pairFirst[p] == first && pairSecond[p] == second) {
                    return pairOne[p];
                }
            }
            return 0;
        }

        /** The KEY of a NAME. */
        long soundOf(long word) {
            long sound = 0L;
            int size = 0;
            int latest = 0;
            int length = Word.lengthOf(word);
            for (int i = 0; i < length; i++) {
                boolean isFirst = i == 0;
                int letter = Word.letterAt(word, i);
                int one = pairOf(letter, Word.letterAt(word, i + 1));
                if (one != 0) {
                    letter = one;
                    i++;
                }
                if (!isFirst && (mute >> letter & 1) == 1) {
                    continue;
                }
                letter = headOf(letter);
                if (letter != latest) {
                    sound |= Word.letterPut(letter, size);
                    size++;
                    latest = letter;
                }
            }
            return sound;
        }

        void copyFrom(Rules other) {
            near = other.near;
            last = other.last;
            step = other.step;
            mute = other.mute;
            groups = other.groups;
            pairs = other.pairs;
            System.arraycopy(other.groupHead, 0, groupHead, 0, MOST_GROUPS);
            System.arraycopy(other.groupBits, 0, groupBits, 0, MOST_GROUPS);
            System.arraycopy(other.pairFirst, 0, pairFirst, 0, MOST_PAIRS);
            System.arraycopy(other.pairSecond, 0, pairSecond, 0, MOST_PAIRS);
            System.arraycopy(other.pairOne, 0, pairOne, 0, MOST_PAIRS);
        }
    }

    /** NAMES of one kind, with their KEYS. */
    private static final class Names {
        final long[] word;
        final long[] sound;
        int count;

        Names(int most) {
            word = new long[most];
            sound = new long[most];
        }

        boolean holds(int k) {
            return k >= 0 && k < count;
        }

        boolean isFull() {
            return count >= word.length;
        }

        int placeOf(long name) {
            for (int k = 0; k < count; k++) {
                if (word[k] == name) {
                    return k;
                }
            }
            return NONE;
        }

        void add(long name, long itsSound) {
            if (!isFull()) {
                word[count] = name;
                sound[count] = itsSound;
                count++;
            }
        }

        void hearAll(Rules rules) {
            for (int k = 0; k < count; k++) {
                sound[k] = rules.soundOf(word[k]);
            }
        }

        void drop(int k) {
            if (holds(k)) {
                System.arraycopy(word, k + 1, word, k, count - k - 1);
                System.arraycopy(sound, k + 1, sound, k, count - k - 1);
                count--;
            }
        }

        void copyFrom(Names other) {
            count = other.count;
            System.arraycopy(other.word, 0, word, 0, count);
            System.arraycopy(other.sound, 0, sound, 0, count);
        }
    }

    /** The HOUSES of all STREETS, MOST_HOUSES slots a STREET. */
    private static final class Homes {
        final int[] count = new int[MOST_STREETS];
        final int[] side = new int[MOST_STREETS * MOST_HOUSES];
        final int[] yards = new int[MOST_STREETS * MOST_HOUSES];
        final int[] number = new int[MOST_STREETS * MOST_HOUSES];

        static int slot(int street, int h) {
            return street * MOST_HOUSES + h;
        }

        void clear() {
            Arrays.fill(count, 0);
        }

        int ofAll() {
            int many = 0;
            for (int s = 0; s < MOST_STREETS; s++) {
                many += count[s];
            }
            return many;
        }

        int ofSet(int streets) {
            int many = 0;
            for (int s = 0; s < MOST_STREETS; s++) {
                if ((streets >> s & 1) == 1) {
                    many += count[s];
                }
            }
            return many;
        }

        boolean isTaken(int street, int itsSide, int itsYards) {
            for (int h = 0; h < count[street]; h++) {
                int slot = slot(street, h);
                if (side[slot] == itsSide && yards[slot] == itsYards) {
                    return true;
                }
            }
            return false;
        }

        /** How many stand on that side at lesser yards. */
        int before(int street, int itsSide, int itsYards) {
            int many = 0;
            for (int h = 0; h < count[street]; h++) {
                int slot = slot(street, h);
                if (side[slot] == itsSide && yards[slot] < itsYards) {
                    many++;
                }
            }
            return many;
        }

        void add(int street, int itsSide, int itsYards, int itsNumber) {
            if (count[street] < MOST_HOUSES) {
                int slot = slot(street, count[street]);
                side[slot] = itsSide;
                yards[slot] = itsYards;
                number[slot] = itsNumber;
                count[street]++;
            }
        }

        void drop(int street, int h) {
            int slot = slot(street, h);
            int behind = count[street] - h - 1;
            if (h >= 0 && behind >= 0) {
                System.arraycopy(side, slot + 1, side, slot, behind);
                System.arraycopy(yards, slot + 1, yards, slot, behind);
                System.arraycopy(number, slot + 1, number, slot, behind);
                count[street]--;
            }
        }

        void copyFrom(Homes other) {
            System.arraycopy(other.count, 0, count, 0, count.length);
            System.arraycopy(other.side, 0, side, 0, side.length);
            System.arraycopy(other.yards, 0, yards, 0, yards.length);
            System.arraycopy(other.number, 0, number, 0, number.length);
        }
    }

    /** All that an image keeps. */
    private static final class Town {
        final Rules rules = new Rules();
        final Names streets = new Names(MOST_STREETS);
        final Names pool = new Names(MOST_POOL);
        final Names aliases = new Names(MOST_ALIASES);
        final int[] aliasStreet = new int[MOST_ALIASES];
        final int[] aliasLast = new int[MOST_ALIASES];
        final Homes homes = new Homes();
        int year;

        void clear() {
            rules.clear();
            streets.count = 0;
            pool.count = 0;
            aliases.count = 0;
            homes.clear();
            year = 0;
        }

        /** Rules may be told behind the NAMES that they are for, so they come to bear at the end. */
        void settle() {
            streets.hearAll(rules);
            pool.hearAll(rules);
            aliases.hearAll(rules);
            Arrays.fill(aliasLast, rules.last);
        }

        Names ofKind(int kind) {
            switch (kind) {
                case OF_STREETS: return streets;
                case OF_POOL: return pool;
                case OF_ALIASES: return aliases;
                default: return null;
            }
        }

        boolean knows(long name) {
            return streets.placeOf(name) != NONE || pool.placeOf(name) != NONE || aliases.placeOf(name) != NONE;
        }

        boolean areAlike(Names ones, int k, Names others, int n) {
            return ones.sound[k] == others.sound[n] || Word.isWithin(ones.word[k], others.word[n], rules.near);
        }

        boolean isLive(int k) {
            return aliasLast[k] >= year;
        }

        boolean isLiveOfAnother(int k, int street) {
            return aliasStreet[k] != street && isLive(k);
        }

        int liveAlias(long name) {
            for (int k = 0; k < aliases.count; k++) {
                if (aliases.word[k] == name && isLive(k)) {
                    return k;
                }
            }
            return NONE;
        }

        /** The LIVE ALIAS of a STREET that is just a NAME. */
        int ownAlias(int street, long name) {
            for (int k = 0; k < aliases.count; k++) {
                if (aliases.word[k] == name && aliasStreet[k] == street && isLive(k)) {
                    return k;
                }
            }
            return NONE;
        }

        void addAlias(long name, long itsSound, int street, int lastYear) {
            if (!aliases.isFull()) {
                aliasStreet[aliases.count] = street;
                aliasLast[aliases.count] = lastYear;
                aliases.add(name, itsSound);
            }
        }

        private void dropAlias(int k) {
            if (aliases.holds(k)) {
                int behind = aliases.count - k - 1;
                System.arraycopy(aliasStreet, k + 1, aliasStreet, k, behind);
                System.arraycopy(aliasLast, k + 1, aliasLast, k, behind);
                aliases.drop(k);
            }
        }

        /** The STREET TAKES the NAME; what goes goes first, so that there is room where 30 stay. */
        void rename(int street, int k) {
            dropAlias(ownAlias(street, pool.word[k]));
            addAlias(streets.word[street], streets.sound[street], street, year + rules.last);
            streets.word[street] = pool.word[k];
            streets.sound[street] = pool.sound[k];
        }

        void pass(int n) {
            year += n;
            for (int k = aliases.count - 1; k >= 0; k--) {
                if (!isLive(k)) {
                    dropAlias(k);
                }
            }
        }

        int lettersOnHouses(int street) {
            return homes.count[street] * Word.lengthOf(streets.word[street]);
        }

        void copyFrom(Town other) {
            rules.copyFrom(other.rules);
            streets.copyFrom(other.streets);
            pool.copyFrom(other.pool);
            aliases.copyFrom(other.aliases);
            System.arraycopy(other.aliasStreet, 0, aliasStreet, 0, MOST_ALIASES);
            System.arraycopy(other.aliasLast, 0, aliasLast, 0, MOST_ALIASES);
            homes.copyFrom(other.homes);
            year = other.year;
        }
    }

    /** The towns ahead of the latest ACTS, in a ring; slots are made when first needed. */
    private static final class Past {
        private final Town[] ring = new Town[MOST_ACTS];
        private int next;
        int count;

        void store(Town town) {
            if (ring[next] == null) {
                ring[next] = new Town();
            }
            ring[next].copyFrom(town);
            next = (next + 1) % MOST_ACTS;
            count = Math.min(count + 1, MOST_ACTS);
        }

        void bringBack(Town town) {
            int latest = (next + MOST_ACTS - 1) % MOST_ACTS;
            if (count > 0 && ring[latest] != null) {
                town.copyFrom(ring[latest]);
                next = latest;
                count--;
            }
        }
    }

    /** Tells how far NAMES are from one another. */
    private static final class Ear {
        private final int[] row = new int[MOST_LETTERS + 1];

        /** CHANGES of two NAMES, by rows of the table of their beginnings. */
        int distance(long one, long two) {
            int width = Word.lengthOf(two);
            int height = Word.lengthOf(one);
            for (int j = 0; j <= width; j++) {
                row[j] = j;
            }
            for (int i = 1; i <= height; i++) {
                int letter = Word.letterAt(one, i - 1);
                int diagonal = row[0];
                row[0] = i;
                for (int j = 1; j <= width; j++) {
                    int above = row[j];
                    int exchanged = letter == Word.letterAt(two, j - 1) ? diagonal : diagonal + 1;
                    row[j] = Math.min(exchanged, Math.min(above, row[j - 1]) + 1);
                    diagonal = above;
                }
            }
            return row[width];
        }
    }

    /** CLASHES and THE PLAN. What was learned holds until it is told to forget. */
    private static final class Planner {
        private static final int MASKS = 1 << MOST_POOL;
        private static final int LONG_BITS = 64;

        /** The STREETS of THE PLAN as bits; NONE without one. */
        int chosen = NONE;
        final int[] given = new int[MOST_STREETS];
        private boolean knowsClashes;
        private boolean knowsPlan;
        private int streetCount;
        private int poolCount;
        /** Of each STREET the others that it clashes with, as bits. */
        private final int[] clashing = new int[MOST_STREETS];
        /** Of each NAME of the POOL the STREETS that may get it, as bits. */
        private final int[] takers = new int[MOST_POOL];
        /** Of each NAME of the POOL those that it is ALIKE to (itself, too), as bits. */
        private final int[] rivals = new int[MOST_POOL];
        /** Sets of given NAMES from which no way leads on, a bit each. */
        private final long[] dead = new long[MASKS / LONG_BITS];

        void forget() {
            knowsClashes = false;
            knowsPlan = false;
        }

        void learnClashes(Town town) {
            if (knowsClashes) {
                return;
            }
            Arrays.fill(clashing, 0);
            for (int s = 0; s < town.streets.count; s++) {
                for (int t = s + 1; t < town.streets.count; t++) {
                    if (town.areAlike(town.streets, s, town.streets, t)) {
                        clashing[s] |= 1 << t;
                        clashing[t] |= 1 << s;
                    }
                }
            }
            knowsClashes = true;
        }

        boolean isClash(int s, int t) {
            return (clashing[s] >> t & 1) == 1;
        }

        int circleOf(int street, int streets) {
            int bits = 1 << street;
            // the farthest of a CIRCLE is reached in fewer steps than there are STREETS
            for (int i = 0; i < streets; i++) {
                for (int s = 0; s < streets; s++) {
                    if ((bits >> s & 1) == 1) {
                        bits |= clashing[s];
                    }
                }
            }
            return bits;
        }

        int fewestLeft(int streets) {
            int fewest = streets;
            for (int set = 0; set < 1 << streets; set++) {
                int many = Integer.bitCount(set);
                if (many < fewest && isTight(set, streets)) {
                    fewest = many;
                }
            }
            return fewest;
        }

        /**
         * Whether no two of the others clash, and each of the set clashes with one of the others. The fewest
         * are always such a set: where one of a set could stay, the rest can do with the NAMES they got.
         */
        private boolean isTight(int set, int streets) {
            for (int s = 0; s < streets; s++) {
                boolean clashesOutside = (clashing[s] & ~set) != 0;
                boolean isInside = (set >> s & 1) == 1;
                if (clashesOutside != isInside) {
                    return false;
                }
            }
            return true;
        }

        void learnPlan(Town town) {
            if (knowsPlan) {
                return;
            }
            learnClashes(town);
            streetCount = town.streets.count;
            poolCount = town.pool.count;
            chosen = NONE;
            if (isTight(0, streetCount)) {
                chosen = 0;
            } else {
                learnTakers(town);
                learnRivals(town);
                choose(town);
            }
            knowsPlan = true;
        }

        private void choose(Town town) {
            for (int set = 1; set < 1 << streetCount; set++) {
                // what is given changes only where a whole set can be, so it is always that of the chosen one
                if (isTight(set, streetCount) && isBetter(town, set) && canBeGiven(set)) {
                    chosen = set;
                }
            }
        }

        /** Sets come by their bits, so of like ones the earlier is the better. */
        private boolean isBetter(Town town, int set) {
            if (chosen == NONE) {
                return true;
            }
            int fewer = Integer.bitCount(chosen) - Integer.bitCount(set);
            return fewer > 0 || fewer == 0 && town.homes.ofSet(set) < town.homes.ofSet(chosen);
        }

        private void learnTakers(Town town) {
            for (int k = 0; k < poolCount; k++) {
                boolean isFree = town.streets.placeOf(town.pool.word[k]) == NONE;
                int bits = isFree ? (1 << streetCount) - 1 : 0;
                for (int s = 0; s < streetCount && bits != 0; s++) {
                    if (town.areAlike(town.pool, k, town.streets, s)) {
                        bits &= 1 << s;
                    }
                }
                for (int a = 0; a < town.aliases.count && bits != 0; a++) {
                    if (town.isLive(a) && town.areAlike(town.pool, k, town.aliases, a)) {
                        bits &= 1 << town.aliasStreet[a];
                    }
                }
                takers[k] = bits;
            }
        }

        private void learnRivals(Town town) {
            for (int k = 0; k < poolCount; k++) {
                rivals[k] = 1 << k;
            }
            for (int k = 0; k < poolCount; k++) {
                for (int n = k + 1; n < poolCount; n++) {
                    if (town.areAlike(town.pool, k, town.pool, n)) {
                        rivals[k] |= 1 << n;
                        rivals[n] |= 1 << k;
                    }
                }
            }
        }

        private boolean canBeGiven(int set) {
            Arrays.fill(dead, 0L);
            return giveFrom(0, set, 0, 0);
        }

        /**
         * Gives the STREETS of the set from one on the first NAMES that go. How many NAMES were given tells
         * how far the set has come, so a set of NAMES that was dead once stays so.
         */
        private boolean giveFrom(int street, int set, int used, int barred) {
            if (street >= streetCount) {
                return true;
            }
            if ((set >> street & 1) == 0) {
                return giveFrom(street + 1, set, used, barred);
            }
            if ((dead[used / LONG_BITS] >> used % LONG_BITS & 1L) == 1L) {
                return false;
            }
            for (int k = 0; k < poolCount; k++) {
                boolean goes = (takers[k] >> street & 1) == 1 && (barred >> k & 1) == 0;
                if (goes && giveFrom(street + 1, set, used | 1 << k, barred | rivals[k])) {
                    given[street] = k;
                    return true;
                }
            }
            dead[used / LONG_BITS] |= 1L << used % LONG_BITS;
            return false;
        }

        boolean isChosen(int street) {
            return chosen != NONE && (chosen >> street & 1) == 1;
        }

        int aliasesBehind(Town town) {
            int many = town.aliases.count;
            for (int s = 0; s < streetCount; s++) {
                if (isChosen(s) && town.ownAlias(s, town.pool.word[given[s]]) == NONE) {
                    many++;
                }
            }
            return many;
        }
    }

    /**
     * Numbers of the HOUSES of a STREET, side by side. Inside, numbers of a side are counted as steps of two
     * from its first one (1 on the left, 2 on the right), so that they rise by one at least.
     */
    private static final class Numbering {
        private static final int MANY = 1000;

        /** The number THEN of each house, by its place. */
        final int[] due = new int[MOST_HOUSES];
        private int size;
        /** The HOUSES of a side by yards. */
        private final int[] row = new int[MOST_HOUSES];
        private final int[] low = new int[MOST_HOUSES];
        /** The step that a house has its number at; NONE if it can't keep it. */
        private final int[] own = new int[MOST_HOUSES];
        /** Of house i of the row, if it keeps its number, at i + 1 (0: ahead of all of them). */
        private final int[] fewestBehind = new int[MOST_HOUSES + 1];
        private final int[] nextKept = new int[MOST_HOUSES + 1];

        static int lowOf(int side, int yards, int step) {
            return step < 1 ? NONE : yards / step * 2 + 1 + side;
        }

        private static boolean isOfSide(int side, int number) {
            return (number & 1) != side;
        }

        static int fitting(Homes homes, int street, int side, int yards, int step) {
            int above = 0;
            int below = MOST_NUMBER + 1;
            for (int h = 0; h < homes.count[street]; h++) {
                int slot = Homes.slot(street, h);
                if (homes.side[slot] != side) {
                    continue;
                }
                if (homes.yards[slot] < yards) {
                    above = Math.max(above, homes.number[slot]);
                } else {
                    below = Math.min(below, homes.number[slot]);
                }
            }
            int next = isOfSide(side, above + 1) ? above + 1 : above + 2;
            int number = Math.max(next, lowOf(side, yards, step));
            return number < below ? number : NONE;
        }

        static int unused(Homes homes, int street, int side) {
            int greatest = 0;
            int used = 0;
            for (int h = 0; h < homes.count[street]; h++) {
                int slot = Homes.slot(street, h);
                int number = homes.number[slot];
                if (homes.side[slot] == side && isOfSide(side, number)) {
                    greatest = Math.max(greatest, number);
                    used += isFirstWith(homes, street, h) ? 1 : 0;
                }
            }
            return greatest == 0 ? 0 : (greatest + 1 - side) / 2 - used;
        }

        private static boolean isFirstWith(Homes homes, int street, int h) {
            int slot = Homes.slot(street, h);
            for (int i = 0; i < h; i++) {
                int other = Homes.slot(street, i);
                if (homes.side[other] == homes.side[slot] && homes.number[other] == homes.number[slot]) {
                    return false;
                }
            }
            return true;
        }

        private void lineUp(Homes homes, int street, int side, int step) {
            size = 0;
            for (int h = 0; h < homes.count[street]; h++) {
                int slot = Homes.slot(street, h);
                if (homes.side[slot] == side) {
                    size++;
                    int i = homes.before(street, side, homes.yards[slot]);
                    int least = lowOf(side, homes.yards[slot], step);
                    int number = homes.number[slot];
                    row[i] = h;
                    low[i] = stepOf(side, least);
                    own[i] = isOfSide(side, number) && number >= least ? stepOf(side, number) : NONE;
                }
            }
        }

        private static int stepOf(int side, int number) {
            return (number - 1 - side) / 2;
        }

        boolean isInOrder(Homes homes, int street, int step) {
            for (int side = 0; side < SIDES; side++) {
                lineUp(homes, street, side, step);
                int latest = NONE;
                for (int i = 0; i < size; i++) {
                    if (own[i] <= latest) {
                        return false;
                    }
                    latest = own[i];
                }
            }
            return true;
        }

        /** FEWEST of a STREET; the numbers THEN are due. */
        int settle(Homes homes, int street, int step) {
            int many = 0;
            for (int side = 0; side < SIDES; side++) {
                lineUp(homes, street, side, step);
                int top = stepOf(side, MOST_NUMBER);
                for (int i = size; i >= 0; i--) {
                    lookBehind(i, top);
                }
                if (fewestBehind[0] >= MANY) {
                    return NONE;
                }
                many += fewestBehind[0];
                number(side);
            }
            return many;
        }

        /**
         * The fewest that change behind house i - 1 of the row, if that one keeps its number. Those between it
         * and the next that is kept get the least they can; the later that next one comes, the less they are.
         */
        private void lookBehind(int i, int top) {
            int latest = i == 0 ? NONE : own[i - 1];
            int changed = 0;
            fewestBehind[i] = MANY;
            nextKept[i] = size;
            for (int n = i; n < size; n++) {
                int least = Math.max(low[n], latest + 1);
                if (least > top) {
                    return;
                }
                if (own[n] >= least && changed + fewestBehind[n + 1] <= fewestBehind[i]) {
                    fewestBehind[i] = changed + fewestBehind[n + 1];
                    nextKept[i] = n;
                }
                changed += own[n] == least ? 0 : 1;
                latest = least;
            }
            if (changed <= fewestBehind[i]) {
                fewestBehind[i] = changed;
                nextKept[i] = size;
            }
        }

        private void number(int side) {
            int latest = NONE;
            int kept = nextKept[0];
            for (int i = 0; i < size; i++) {
                latest = i == kept ? own[i] : Math.max(low[i], latest + 1);
                due[row[i]] = 2 * latest + 1 + side;
                if (i == kept) {
                    kept = nextKept[i + 1];
                }
            }
        }
    }
}
