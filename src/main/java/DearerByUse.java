/** Letters that are let, each dearer by every use since dawn, and those who write with them. */
public final class DearerByUse {
    public static final int NONE = -1, BAD = -2, STATE = -3, FULL = -4;
    public static final long NO = -4611686018427387904L;

    private static final int NOTHING = -11, OUTSIDE = -12, UNLIKE = -13, BELOW = -14;
    private static final int NO_SUCH = -100000, FAULTY = -100;

    private static final int LETTERS = 8, HOURS = 24, THINGS = 4;
    private static final int MOST_USED = 999, MOST_PURSE = 9999, MOST_NUMBER = 9;
    private static final int MOST_WORDS = 10, LONGEST = 6, MOST_WRITERS = 5, MOST_LAWS = 6;
    private static final int MOST_TEXTS = 6, TAPE = 160, MOST_BYTE = 255;
    private static final int MOST_BURNED = 20, MOST_SEEDS = 20, TURNING = 4;
    private static final int SHEETS = 4, MOST_CELLS = 40, MISSING = -1, INTS = 2;

    private final int[] used = new int[LETTERS];
    private final Words words = new Words();
    private final Writers wanting = new Writers();
    private final Laws laws = new Laws();
    private final Reader reader = new Reader();
    private final Texts texts = new Texts();
    private final Day thought = new Day(used, words, wanting, laws, texts);
    private final Image kept = new Image();
    private final Sheets sheets = new Sheets();

    public DearerByUse() {
        laws.add(0, 1);
        reader.load("adds 0 ; worth 50 - length ; may 1 ;");
        reader.read();
        texts.add(reader.code, reader.ends);
    }

    // ---- letters, words, writers, laws

    public int set(int what, int of, int v) {
        switch (what) {
            case 0: return put(used, LETTERS, of, v, MOST_USED);
            case 1: return put(wanting.things, wanting.size, of, v, THINGS - 1);
            case 2: return put(wanting.hours, wanting.size, of, v, HOURS - 1);
            case 3: return put(wanting.purses, wanting.size, of, v, MOST_PURSE);
            case 4: return put(laws.numbers, laws.size, of, v, MOST_NUMBER);
            default: return BAD;
        }
    }

    public int told(int of, int what) {
        switch (what) {
            case 0: return item(used, LETTERS, of);
            case 1: return item(wanting.things, wanting.size, of);
            case 2: return item(wanting.hours, wanting.size, of);
            case 3: return item(wanting.purses, wanting.size, of);
            case 4: return item(laws.numbers, laws.size, of);
            case 5: return item(laws.kinds, laws.size, of);
            case 6: return item(words.things, words.size, of);
            case 7: return item(words.lengths, words.size, of);
            default: return BAD;
        }
    }

    public int word(int thing, int letters) {
        if (!within(thing, THINGS - 1) || Words.lengthOf(letters) == 0) return BAD;
        return words.add(thing, letters);
    }

    public int writer(int thing, int hour, int purse) {
        return wanting.add(thing, hour, purse);
    }

    public int law(int kind, int number) {
        if (!within(kind, Laws.RARE) || !within(number, MOST_NUMBER)) return BAD;
        return laws.add(kind, number);
    }

    public int rule(int law) {
        if (!within(law, laws.size - 1)) return BAD;
        int was = laws.ruling;
        laws.ruling = law;
        return was;
    }

    // ---- texts

    public int feed(int letter) {
        if (!within(letter, MOST_BYTE)) return BAD;
        return reader.append(letter) ? reader.size : FULL;
    }

    public int text() {
        if (texts.size >= MOST_TEXTS) return FULL;
        int fault = reader.read();
        if (fault != NONE) return FAULTY - fault;
        return texts.add(reader.code, reader.ends);
    }

    public int force(int text) {
        if (!within(text, texts.size - 1)) return BAD;
        int was = texts.ruling;
        texts.ruling = text;
        return was;
    }

    // ---- writing

    public int costs(int word, int hour) {
        if (!within(word, words.size - 1) || !within(hour, HOURS - 1)) return BAD;
        thought.dawn();
        return thought.costOf(word, hour);
    }

    public int write(int word, int hour) {
        if (!within(word, words.size - 1) || !within(hour, HOURS - 1)) return BAD;
        thought.dawn();
        int cost = thought.costOf(word, hour);
        words.spend(word, used);
        return cost;
    }

    public int pass(int n) {
        if (!within(n, HOURS)) return BAD;
        for (int i = 0; i < n; i++) laws.age(laws.ruling, used);
        return sum(used);
    }

    public int cheapest(int thing, int hour, int what) {
        if (!within(thing, THINGS - 1) || !within(hour, HOURS - 1) || !within(what, 1)) return BAD;
        int first = NONE;
        int least = NONE;
        thought.dawn();
        for (int word = 0; word < words.size; word++) {
            if (words.things[word] != thing) continue;
            int cost = thought.costOf(word, hour);
            if (first == NONE || cost < least) {
                first = word;
                least = cost;
            }
        }
        return what == 0 ? first : least;
    }

    // ---- a day

    public int day(int writer, int what) {
        if (!within(writer, wanting.size - 1) || !within(what, 2)) return NO_SUCH;
        thought.dawn();
        thought.live();
        if (what == 0) return thought.paid[writer];
        return what == 1 ? thought.said[writer] : thought.good[writer];
    }

    public int all(int what) {
        if (!within(what, 3)) return NO_SUCH;
        thought.dawn();
        thought.live();
        switch (what) {
            case 0: return thought.allGood();
            case 1: return thought.howManySaid();
            case 2: return thought.spread();
            default: return thought.allPaid();
        }
    }

    public int when(int writer, int what) {
        if (!within(writer, wanting.size - 1) || !within(what, 1)) return NO_SUCH;
        thought.tryHours(writer);
        int hour = firstMost(thought.goodBy);
        return what == 0 ? hour : thought.goodBy[hour];
    }

    public int choose(int writer) {
        if (!within(writer, wanting.size - 1)) return NO_SUCH;
        thought.tryHours(writer);
        int hour = firstMost(thought.goodBy);
        wanting.hours[writer] = hour;
        return thought.goodBy[hour];
    }

    public int rest() {
        for (int writer = 0; writer < wanting.size; writer++) {
            thought.tryHours(writer);
            int most = thought.goodBy[firstMost(thought.goodBy)];
            if (most > thought.goodBy[wanting.hours[writer]]) return 0;
        }
        return 1;
    }

    public int turns(int what) {
        if (!within(what, 1)) return NO_SUCH;
        int turning = Math.min(wanting.size, TURNING);
        int first = NONE;
        int most = 0;
        int ways = 1 << (2 * turning);
        // A way has two bits for each writer, the highest for writer 0: so ways come in the order of their digits.
        for (int way = 0; way < ways; way++) {
            if (!isTurn(way, turning)) continue;
            thought.dawn();
            for (int i = 0; i < turning; i++) thought.hours[i] = wanting.hours[whoseHour(way, i, turning)];
            thought.live();
            int good = thought.allGood();
            if (first == NONE || good > most) {
                first = way;
                most = good;
            }
        }
        return what == 0 ? most : digits(first, turning);
    }

    public int burn(int letter, int n) {
        if (!within(letter, LETTERS - 1) || !within(n - 1, MOST_BURNED - 1)) return NO_SUCH;
        return thought.goodIfBurned(letter, 0) - thought.goodIfBurned(letter, n);
    }

    public int worst(int n, int what) {
        if (!within(n - 1, MOST_BURNED - 1) || !within(what, 1)) return NO_SUCH;
        int unburned = thought.goodIfBurned(0, 0);
        int first = 0;
        int most = unburned - thought.goodIfBurned(0, n);
        for (int letter = 1; letter < LETTERS; letter++) {
            int less = unburned - thought.goodIfBurned(letter, n);
            if (less > most) {
                first = letter;
                most = less;
            }
        }
        return what == 0 ? first : most;
    }

    public int best(int what) {
        if (!within(what, 2)) return NO_SUCH;
        int first = NONE;
        int mostSaid = 0;
        int mostGood = 0;
        for (int law = 0; law < laws.size; law++) {
            thought.dawn();
            thought.law = law;
            thought.live();
            int said = thought.howManySaid();
            int good = thought.allGood();
            if (first == NONE || said > mostSaid || said == mostSaid && good > mostGood) {
                first = law;
                mostSaid = said;
                mostGood = good;
            }
        }
        if (what == 0) return first;
        return what == 1 ? mostSaid : mostGood;
    }

    // ---- what was said

    public int judge(int sheet) {
        int refusal = refusalToJudge(sheet);
        if (refusal != 0) return refusal;
        thought.dawn();
        thought.live();
        return thought.firstUnlike(sheets.rows[sheet]);
    }

    public int fits(int writer, int sum) {
        if (!within(writer, wanting.size - 1) || !within(sum, MOST_PURSE)) return BAD;
        thought.dawn();
        thought.liveTo(writer);
        int bits = 0;
        for (int word = 0; word < words.size; word++) {
            if (words.things[word] != wanting.things[writer]) continue;
            if (thought.costOf(word, wanting.hours[writer]) == sum) bits |= 1 << word;
        }
        return bits;
    }

    public int whose(int sheet) {
        int refusal = refusalToJudge(sheet);
        if (refusal != 0) return refusal;
        int bits = 0;
        for (int law = 0; law < laws.size; law++) {
            thought.dawn();
            thought.law = law;
            thought.live();
            if (thought.firstUnlike(sheets.rows[sheet]) == NONE) bits |= 1 << law;
        }
        return bits;
    }

    public int drawn(int seed) {
        thought.dawn();
        thought.draw(seed);
        thought.live();
        return thought.allGood();
    }

    public long chance(int seed, int n, int part) {
        if (!within(n - 1, MOST_SEEDS - 1) || !within(part, 1)) return NO;
        int allSay = 0;
        for (int i = 0; i < n; i++) {
            thought.dawn();
            thought.draw(seed + i);
            thought.live();
            if (thought.howManySaid() == wanting.size) allSay++;
        }
        int shared = commonDivisor(allSay, n);
        return part == 0 ? allSay / shared : n / shared;
    }

    public int image() {
        System.arraycopy(used, 0, kept.used, 0, LETTERS);
        kept.keepWriters(wanting);
        kept.keepLaws(laws);
        kept.words = words.size;
        kept.text = texts.ruling;
        kept.there = true;
        return wanting.size;
    }

    public int back() {
        if (!kept.there) return STATE;
        System.arraycopy(kept.used, 0, used, 0, LETTERS);
        kept.restoreWriters(wanting);
        kept.restoreLaws(laws);
        words.size = kept.words;
        texts.ruling = kept.text;
        return wanting.size;
    }

    public int count(int what) {
        switch (what) {
            case 0: return words.size;
            case 1: return wanting.size;
            case 2: return laws.size;
            case 3: return laws.ruling;
            case 4: return texts.size;
            case 5: return reader.size;
            case 6: return texts.ruling;
            case 7: return sum(used);
            default: return BAD;
        }
    }

    // ---- the host

    public int sheet(int sheet, int sort, int n) {
        if (!within(sheet, SHEETS - 1) || !within(sort - MISSING, INTS - MISSING)) return BAD;
        if (sort == MISSING) {
            sheets.sorts[sheet] = MISSING;
            return 1;
        }
        if (n > MOST_CELLS) return BAD;
        if (n < 0) return BELOW;
        sheets.lay(sheet, sort, n);
        return 1;
    }

    public int cell(int sheet, int i, int v) {
        if (!within(sheet, SHEETS - 1)) return BAD;
        if (sheets.sorts[sheet] == MISSING) return NOTHING;
        if (!within(i, sheets.sizes[sheet] - 1)) return OUTSIDE;
        sheets.put(sheet, i, v);
        return 1;
    }

    public int copy(int sheet, int i, int other, int j, int n) {
        if (!within(sheet, SHEETS - 1) || !within(other, SHEETS - 1)) return BAD;
        if (sheets.sorts[sheet] == MISSING || sheets.sorts[other] == MISSING) return NOTHING;
        if (sheets.sorts[sheet] != sheets.sorts[other]) return UNLIKE;
        if (!sheets.hasRoom(sheet, i, n) || !sheets.hasRoom(other, j, n)) return OUTSIDE;
        System.arraycopy(sheets.rows[sheet], i, sheets.rows[other], j, n);
        return n;
    }

    public int writers(int sheet, int sort, int from, int n) {
        if (!within(sheet, SHEETS - 1) || !within(sort, INTS) || !within(n, MOST_WRITERS)) return BAD;
        // What is missing is of no sort, so that it can't be of another one.
        if (sheets.sorts[sheet] == MISSING) return NOTHING;
        if (sheets.sorts[sheet] != sort) return UNLIKE;
        int[] row = sheets.rows[sheet];
        int at = from;
        int came = 0;
        for (int i = 0; i < n; i++) {
            if (!sheets.hasRoom(sheet, at, 3)) return OUTSIDE;
            if (wanting.add(row[at], row[at + 1], row[at + 2]) >= 0) came++;
            at += 3;
        }
        return came;
    }

    public int taken(int law, int k) {
        if (!within(k, Laws.RARE)) return BAD;
        if (!within(law, laws.size - 1)) return NOTHING;
        return laws.isUnder(law, k) ? laws.numbers[law] : UNLIKE;
    }

    // ---- what many calls need

    private static boolean within(int v, int most) {
        return v >= 0 && v <= most;
    }

    private static int put(int[] row, int size, int of, int v, int most) {
        if (!within(of, size - 1) || !within(v, most)) return BAD;
        int was = row[of];
        row[of] = v;
        return was;
    }

    private static int item(int[] row, int size, int of) {
        return within(of, size - 1) ? row[of] : BAD;
    }

    private static int sum(int[] row) {
        int sum = 0;
        for (int v : row) sum += v;
        return sum;
    }

    private static int firstMost(int[] row) {
        int first = 0;
        for (int i = 1; i < row.length; i++) {
            if (row[i] > row[first]) first = i;
        }
        return first;
    }

    private static int whoseHour(int way, int writer, int turning) {
        return way >> (2 * (turning - 1 - writer)) & 3;
    }

    /** Whether a way gives each of the turning writers' hours once. */
    private static boolean isTurn(int way, int turning) {
        int given = 0;
        for (int i = 0; i < turning; i++) given |= 1 << whoseHour(way, i, turning);
        return given == (1 << turning) - 1;
    }

    private static int digits(int way, int turning) {
        int digits = 0;
        for (int i = 0; i < turning; i++) digits = digits * 10 + whoseHour(way, i, turning);
        return digits;
    }

    /** The greatest number that divides both; n is 1 at least. */
    private static int commonDivisor(int v, int n) {
        for (int d = n; d > 1; d--) {
            if (v % d == 0 && n % d == 0) return d;
        }
        return 1;
    }

    private int refusalToJudge(int sheet) {
        if (!within(sheet, SHEETS - 1)) return BAD;
        if (sheets.sorts[sheet] == MISSING) return NOTHING;
        return sheets.sizes[sheet] == wanting.size ? 0 : BAD;
    }

    private static final class Words {
        final int[] things = new int[MOST_WORDS];
        final int[] lengths = new int[MOST_WORDS];
        final int[][] letters = new int[MOST_WORDS][LONGEST];
        int size;

        /** How many letters these digits tell; 0, if they are no word's. */
        static int lengthOf(int digits) {
            if (digits < 1 || digits > 888888) return 0;
            int left = digits;
            int length = 0;
            for (int i = 0; i < LONGEST && left > 0; i++) {
                if (!within(left % 10 - 1, LETTERS - 1)) return 0;
                left /= 10;
                length++;
            }
            return length;
        }

        int add(int thing, int digits) {
            if (size >= MOST_WORDS) return FULL;
            int left = digits;
            things[size] = thing;
            lengths[size] = lengthOf(digits);
            for (int i = lengths[size] - 1; i >= 0; i--) {
                letters[size][i] = left % 10 - 1;
                left /= 10;
            }
            return size++;
        }

        /** How often the letter at a place of a word is used ahead, the places before it counted. */
        int usedAhead(int word, int place, int[] used) {
            int letter = letters[word][place];
            int ahead = used[letter];
            for (int i = 0; i < place; i++) {
                if (letters[word][i] == letter) ahead++;
            }
            return Math.min(ahead, MOST_USED);
        }

        void spend(int word, int[] used) {
            for (int i = 0; i < lengths[word]; i++) {
                int letter = letters[word][i];
                used[letter] = Math.min(used[letter] + 1, MOST_USED);
            }
        }
    }

    private static final class Writers {
        final int[] things = new int[MOST_WRITERS];
        final int[] hours = new int[MOST_WRITERS];
        final int[] purses = new int[MOST_WRITERS];
        int size;

        int add(int thing, int hour, int purse) {
            if (!within(thing, THINGS - 1) || !within(hour, HOURS - 1) || !within(purse, MOST_PURSE)) return BAD;
            if (size >= MOST_WRITERS) return FULL;
            things[size] = thing;
            hours[size] = hour;
            purses[size] = purse;
            return size++;
        }
    }

    private static final class Laws {
        static final int LAW = 0, STEEP = 1, FLAT = 2, STEPS = 3, NIGHT = 4, RARE = 5;
        private static final int KINDS = 6, MORNING = 6, RARITY = 5;
        /** The kind right above each. */
        private static final int[] ABOVE = {NONE, LAW, LAW, STEEP, FLAT, STEEP};

        final int[] kinds = new int[MOST_LAWS];
        final int[] numbers = new int[MOST_LAWS];
        int size;
        int ruling;

        int add(int kind, int number) {
            if (size >= MOST_LAWS) return FULL;
            kinds[size] = kind;
            numbers[size] = number;
            return size++;
        }

        boolean isUnder(int law, int k) {
            int kind = kinds[law];
            for (int i = 0; i < KINDS && kind != NONE; i++) {
                if (kind == k) return true;
                kind = ABOVE[kind];
            }
            return false;
        }

        int price(int law, int used, int hour) {
            int number = numbers[law];
            switch (kinds[law]) {
                case STEEP: return steep(number, used);
                case FLAT: return (used + number) / 2;
                case STEPS: return steep(number, used - used % 3);
                case NIGHT: return hour < MORNING ? 0 : (used + number) / 2;
                case RARE: return steep(number, used) + (used == 0 ? RARITY : 0);
                default: return used + number;
            }
        }

        private static int steep(int number, int used) {
            return used + number + used * (number + 1);
        }

        void age(int law, int[] used) {
            // By these all stays as it is; days in thought are many, so their hours are kept short.
            if (kinds[law] == LAW || kinds[law] == STEEP) return;
            for (int i = 0; i < used.length; i++) used[i] = Math.max(aged(law, used[i]), 0);
        }

        private int aged(int law, int used) {
            switch (kinds[law]) {
                case FLAT:
                case NIGHT: return used - numbers[law];
                case STEPS: return used - 1;
                case RARE: return used < numbers[law] ? 0 : used;
                default: return used;
            }
        }
    }

    /** THE TAPE, and what reads it as a TEXT: into a code that names operands ahead of what joins them. */
    private static final class Reader {
        static final int OR = 259, AND = 260, NOT = 261, NEGATE = 262;
        static final int NAMES = 6, PARTS = 3;
        /** Three keys of parts, three of joining (from FIRST_KEY on), then the names; a blank ends each. */
        private static final String KNOWN = "adds worth may or and not used hour letter length purse many ";
        private static final int END = 0, NOWHERE = 1, NUMBER = 2, NAME = 3, FIRST_KEY = 256;
        private static final int KEYS = 6, MOST_DIGITS = 4, MOST_OPEN = 5;
        private static final String SIGNS = "();+-*<=";

        final int[] tape = new int[TAPE];
        int size;
        final int[] code = new int[TAPE];
        /** Where in the code each part ends. */
        final int[] ends = new int[PARTS];
        private int place;
        private int token;
        private int start;
        private int value;
        private int fault;
        private int written;

        boolean append(int letter) {
            if (size >= TAPE) return false;
            tape[size++] = letter;
            return true;
        }

        void load(String s) {
            for (int i = 0; i < s.length(); i++) append(s.charAt(i));
        }

        /** Reads THE TAPE and empties it: the place of its FAULT, or NONE. */
        int read() {
            place = 0;
            fault = NONE;
            written = 0;
            next();
            for (int part = 0; part < PARTS; part++) {
                expect(FIRST_KEY + part);
                readE(0);
                expect(';');
                ends[part] = written;
            }
            expect(END);
            size = 0;
            return fault;
        }

        /** No token stands where reading has refused one: so all that is open ends. */
        private void refuse() {
            if (fault == NONE) fault = start;
            token = NOWHERE;
        }

        private void expect(int due) {
            if (token == due) next();
            else refuse();
        }

        private void emit(int c) {
            if (written < TAPE) code[written++] = c;
        }

        private void readE(int open) {
            readAnd(open);
            for (int i = 0; i < TAPE && token == OR; i++) {
                next();
                readAnd(open);
                emit(-OR);
            }
        }

        private void readAnd(int open) {
            readNot(open);
            for (int i = 0; i < TAPE && token == AND; i++) {
                next();
                readNot(open);
                emit(-AND);
            }
        }

        private void readNot(int open) {
            if (token != NOT) {
                readCompared(open);
            } else if (open < MOST_OPEN) {
                next();
                readNot(open + 1);
                emit(-NOT);
            } else {
                refuse();
            }
        }

        private void readCompared(int open) {
            readSum(open);
            if (token == '<' || token == '=') {
                int sign = token;
                next();
                readSum(open);
                emit(-sign);
            }
        }

        private void readSum(int open) {
            readTerm(open);
            for (int i = 0; i < TAPE && (token == '+' || token == '-'); i++) {
                int sign = token;
                next();
                readTerm(open);
                emit(-sign);
            }
        }

        private void readTerm(int open) {
            readOne(open);
            for (int i = 0; i < TAPE && token == '*'; i++) {
                next();
                readOne(open);
                emit(-'*');
            }
        }

        private void readOne(int open) {
            if (token == NUMBER) {
                emit(value);
                next();
            } else if (token == NAME) {
                emit(-1 - value);
                next();
            } else if (token == '-' && open < MOST_OPEN) {
                next();
                readOne(open + 1);
                emit(-NEGATE);
            } else if (token == '(' && open < MOST_OPEN) {
                next();
                readE(open + 1);
                expect(')');
            } else {
                refuse();
            }
        }

        private void next() {
            while (place < size && isBlank(tape[place])) place++;
            start = place;
            if (place >= size) {
                token = END;
            } else if (isLetter(tape[place])) {
                nextWord();
            } else if (isDigit(tape[place])) {
                nextNumber();
            } else {
                token = SIGNS.indexOf((char) tape[place]) >= 0 ? tape[place] : NOWHERE;
                place++;
            }
        }

        private void nextWord() {
            while (place < size && isLetter(tape[place])) place++;
            int known = knownWord();
            if (known == NONE) {
                token = NOWHERE;
            } else if (known < KEYS) {
                token = FIRST_KEY + known;
            } else {
                token = NAME;
                value = known - KEYS;
            }
        }

        private void nextNumber() {
            value = 0;
            while (place < size && isDigit(tape[place])) {
                value = value * 10 + tape[place] - '0';
                place++;
            }
            token = place - start <= MOST_DIGITS ? NUMBER : NOWHERE;
        }

        /** Which of the known words stands from start to place; NONE. */
        private int knownWord() {
            int word = 0;
            int at = start;
            boolean alike = true;
            for (int i = 0; i < KNOWN.length(); i++) {
                if (KNOWN.charAt(i) == ' ') {
                    if (alike && at == place) return word;
                    word++;
                    at = start;
                    alike = true;
                } else if (alike && at < place && tape[at] == KNOWN.charAt(i)) {
                    at++;
                } else {
                    alike = false;
                }
            }
            return NONE;
        }

        private static boolean isBlank(int c) {
            return c == 32 || c == 10;
        }

        private static boolean isLetter(int c) {
            return c >= 'a' && c <= 'z';
        }

        private static boolean isDigit(int c) {
            return c >= '0' && c <= '9';
        }
    }

    /** The TEXTS, of which one is THE RULE, and what it tells. */
    private static final class Texts {
        private static final int ADDS = 0, WORTH = 1, MAY = 2;
        private static final int MOST_ADDED = 99, MOST_WORTH = 999;
        /** Five operands wait at most in each of six levels, and one is at hand. */
        private static final int STACK = 31;

        private final int[][] codes = new int[MOST_TEXTS][TAPE];
        private final int[][] ends = new int[MOST_TEXTS][Reader.PARTS];
        private final int[] names = new int[Reader.NAMES];
        private final int[] stack = new int[STACK];
        int size;
        int ruling;

        int add(int[] code, int[] itsEnds) {
            if (size >= MOST_TEXTS) return FULL;
            System.arraycopy(code, 0, codes[size], 0, TAPE);
            System.arraycopy(itsEnds, 0, ends[size], 0, Reader.PARTS);
            return size++;
        }

        int adds(int used, int hour, int letter) {
            tell(used, hour, letter, 0, 0, 0);
            return bounded(valued(ADDS), MOST_ADDED);
        }

        int worth(int hour, int length, int purse, int many) {
            tell(0, hour, 0, length, purse, many);
            return bounded(valued(WORTH), MOST_WORTH);
        }

        boolean may(int hour, int length, int purse, int many) {
            tell(0, hour, 0, length, purse, many);
            return valued(MAY) != 0;
        }

        private void tell(int used, int hour, int letter, int length, int purse, int many) {
            names[0] = used;
            names[1] = hour;
            names[2] = letter;
            names[3] = length;
            names[4] = purse;
            names[5] = many;
        }

        private static int bounded(int v, int most) {
            if (v < 0) return 0;
            return v > most ? most : v;
        }

        /** What a part of THE RULE comes to; all in one method, since every use of a letter asks for it. */
        private int valued(int part) {
            int[] code = codes[ruling];
            int end = ends[ruling][part];
            int top = -1;
            for (int i = part == 0 ? 0 : ends[ruling][part - 1]; i < end; i++) {
                int c = code[i];
                if (c >= -Reader.NAMES) {
                    if (top >= STACK - 1) return 0;
                    top++;
                    stack[top] = c >= 0 ? c : names[-1 - c];
                    continue;
                }
                boolean single = c == -Reader.NEGATE || c == -Reader.NOT;
                if (top < (single ? 0 : 1)) return 0;
                int b = stack[top];
                if (!single) top--;
                int a = stack[top];
                switch (-c) {
                    case '+': stack[top] = a + b; break;
                    case '-': stack[top] = a - b; break;
                    case '*': stack[top] = a * b; break;
                    case '<': stack[top] = a < b ? 1 : 0; break;
                    case '=': stack[top] = a == b ? 1 : 0; break;
                    case Reader.AND: stack[top] = a != 0 && b != 0 ? 1 : 0; break;
                    case Reader.OR: stack[top] = a != 0 || b != 0 ? 1 : 0; break;
                    case Reader.NOT: stack[top] = b == 0 ? 1 : 0; break;
                    default: stack[top] = -b;
                }
            }
            return stack[0];
        }
    }

    /** A DAY in thought: at dawn all is as now; then what is asked may be changed; then it is lived. */
    private static final class Day {
        private final int[] now;
        private final Words words;
        private final Writers wanting;
        private final Laws laws;
        private final Texts texts;

        final int[] used = new int[LETTERS];
        final int[] hours = new int[MOST_WRITERS];
        int law;
        final int[] said = new int[MOST_WRITERS];
        final int[] paid = new int[MOST_WRITERS];
        final int[] good = new int[MOST_WRITERS];
        /** What one writer's GOOD would be by each hour. */
        final int[] goodBy = new int[HOURS];

        Day(int[] now, Words words, Writers wanting, Laws laws, Texts texts) {
            this.now = now;
            this.words = words;
            this.wanting = wanting;
            this.laws = laws;
            this.texts = texts;
        }

        void dawn() {
            System.arraycopy(now, 0, used, 0, LETTERS);
            System.arraycopy(wanting.hours, 0, hours, 0, MOST_WRITERS);
            law = laws.ruling;
        }

        void draw(int seed) {
            int z = seed;
            for (int letter = 0; letter < LETTERS; letter++) {
                z = z * 1103515245 + 12345;
                used[letter] = (z >>> 10) % 20;
            }
        }

        void live() {
            liveTo(NONE);
        }

        /** Lives until a writer's turn comes (NONE: to the end). */
        void liveTo(int writer) {
            for (int hour = 0; hour < HOURS; hour++) {
                for (int i = 0; i < wanting.size; i++) {
                    if (hours[i] != hour) continue;
                    if (i == writer) return;
                    takeTurn(i);
                }
                laws.age(law, used);
            }
        }

        private void takeTurn(int writer) {
            int hour = hours[writer];
            int purse = wanting.purses[writer];
            int first = NONE;
            int least = purse + 1;
            for (int word = 0; word < words.size; word++) {
                if (words.things[word] != wanting.things[writer]) continue;
                int cost = costOf(word, hour);
                if (cost < least && texts.may(hour, words.lengths[word], purse, wanting.size)) {
                    first = word;
                    least = cost;
                }
            }
            said[writer] = first;
            paid[writer] = 0;
            good[writer] = 0;
            if (first == NONE) return;
            paid[writer] = least;
            good[writer] = texts.worth(hour, words.lengths[first], purse, wanting.size) - least;
            words.spend(first, used);
        }

        int costOf(int word, int hour) {
            int sum = 0;
            for (int i = 0; i < words.lengths[word]; i++) {
                int ahead = words.usedAhead(word, i, used);
                sum += laws.price(law, ahead, hour) + texts.adds(ahead, hour, words.letters[word][i]);
            }
            return sum;
        }

        void tryHours(int writer) {
            for (int hour = 0; hour < HOURS; hour++) {
                dawn();
                hours[writer] = hour;
                liveTo(writer);
                takeTurn(writer);
                goodBy[hour] = good[writer];
            }
        }

        int goodIfBurned(int letter, int n) {
            dawn();
            used[letter] = Math.min(used[letter] + n, MOST_USED);
            liveTo(NONE);
            return allGood();
        }

        int allGood() {
            int sum = 0;
            for (int i = 0; i < wanting.size; i++) sum += good[i];
            return sum;
        }

        int allPaid() {
            int sum = 0;
            for (int i = 0; i < wanting.size; i++) sum += paid[i];
            return sum;
        }

        int howManySaid() {
            int many = 0;
            for (int i = 0; i < wanting.size; i++) {
                if (said[i] != NONE) many++;
            }
            return many;
        }

        int spread() {
            int most = used[0];
            int least = used[0];
            for (int u : used) {
                most = Math.max(most, u);
                least = Math.min(least, u);
            }
            return most - least;
        }

        /** The first writer who paid otherwise than a row tells; NONE. */
        int firstUnlike(int[] row) {
            for (int i = 0; i < wanting.size; i++) {
                int due = said[i] == NONE ? -1 : paid[i];
                if (row[i] != due) return i;
            }
            return NONE;
        }
    }

    /** What an IMAGE keeps; words and kinds of laws never change, so that their number is enough. */
    private static final class Image {
        boolean there;
        final int[] used = new int[LETTERS];
        int words;
        int text;
        private final int[] things = new int[MOST_WRITERS];
        private final int[] hours = new int[MOST_WRITERS];
        private final int[] purses = new int[MOST_WRITERS];
        private int wanting;
        private final int[] numbers = new int[MOST_LAWS];
        private int laws;
        private int law;

        void keepWriters(Writers from) {
            System.arraycopy(from.things, 0, things, 0, MOST_WRITERS);
            System.arraycopy(from.hours, 0, hours, 0, MOST_WRITERS);
            System.arraycopy(from.purses, 0, purses, 0, MOST_WRITERS);
            wanting = from.size;
        }

        void restoreWriters(Writers to) {
            System.arraycopy(things, 0, to.things, 0, MOST_WRITERS);
            System.arraycopy(hours, 0, to.hours, 0, MOST_WRITERS);
            System.arraycopy(purses, 0, to.purses, 0, MOST_WRITERS);
            to.size = wanting;
        }

        void keepLaws(Laws from) {
            System.arraycopy(from.numbers, 0, numbers, 0, MOST_LAWS);
            laws = from.size;
            law = from.ruling;
        }

        void restoreLaws(Laws to) {
            System.arraycopy(numbers, 0, to.numbers, 0, MOST_LAWS);
            to.size = laws;
            to.ruling = law;
        }
    }

    private static final class Sheets {
        private static final int BYTES = 0, SHORTS = 1;

        final int[] sorts = {MISSING, MISSING, MISSING, MISSING};
        final int[] sizes = new int[SHEETS];
        final int[][] rows = new int[SHEETS][MOST_CELLS];

        void lay(int sheet, int sort, int n) {
            sorts[sheet] = sort;
            sizes[sheet] = n;
            for (int i = 0; i < MOST_CELLS; i++) rows[sheet][i] = 0;
        }

        void put(int sheet, int i, int v) {
            if (sorts[sheet] == BYTES) rows[sheet][i] = (byte) v;
            else if (sorts[sheet] == SHORTS) rows[sheet][i] = (short) v;
            else rows[sheet][i] = v;
        }

        /** Whether n items from i on all lie in a sheet. */
        boolean hasRoom(int sheet, int i, int n) {
            return i >= 0 && n >= 0 && n <= sizes[sheet] && i <= sizes[sheet] - n;
        }
    }
}
