import java.util.Arrays;

/** An office that keeps letters for after; the document's promises say what each call answers. */
public final class AfterOffice {
    public static final int NONE = -1;

    private static final int NOT_SO = -2;
    private static final int YEARS = 60;
    private static final int SHELVES = 4;
    private static final int SLOTS = 3;
    private static final int RAREST_LOOK = 20;

    private static final int MOST_BYTES = 2000;
    private static final int FEED_BYTES = 20;
    private static final int MOST_TOKENS = 400;
    private static final int MOST_PEOPLE = 10;
    private static final int MOST_CLERKS = 4;
    private static final int MOST_BARS = 12;
    private static final int MOST_LETTERS = 10;
    private static final int MOST_NESTED = 6;
    private static final int MOST_FACTS = 60;
    private static final int MOST_WEIGHT = 20;
    private static final int MOST_MONEY = 999;
    private static final int MOST_AGE = 99;
    private static final int MOST_HARM = 99;
    private static final int MOST_PROOF = 99;
    private static final int USUAL_PROOF = 10;
    private static final int USUAL_FEE = 1;
    private static final int HUNDRED = 100;

    private static final int MOST_NEEDED = 3;
    private static final int FUTURE_PEOPLE = 5;
    private static final int FUTURE_LETTERS = 6;
    private static final int ODDS_PEOPLE = 4;
    private static final int ODDS_YEARS = 2;
    private static final int LIVES_YEARS = 8;
    private static final int MOST_SEEDS = 50;

    private static final int LONGEST_NAME = 8;
    private static final int LONGEST_INT = 4;
    private static final int LETTER_BITS = 5;

    // A token's kind is also the operation that it stands for in a condition or a rule.
    private static final int END = 0;
    private static final int NO_TOKEN = 1;
    private static final int NAME = 2;
    private static final int INT = 3;
    private static final int SEMICOLON = 4;
    private static final int PLUS = 5;
    private static final int MINUS = 6;
    private static final int TIMES = 7;
    private static final int OVER = 8;
    private static final int EQUAL = 9;
    private static final int UNEQUAL = 10;
    private static final int BELOW = 11;
    private static final int AT_MOST = 12;
    private static final int IS = 13;
    private static final int OPEN = 14;
    private static final int CLOSE = 15;
    private static final int PERSON = 16;
    private static final int CLERK = 17;
    private static final int BARRED = 18;
    private static final int LETTER = 19;
    private static final int IF = 20;
    private static final int PROOF = 21;
    private static final int DIES = 22;
    private static final int FEE = 23;
    private static final int GOOD = 24;
    private static final int OR = 25;
    private static final int AND = 26;
    private static final int NOT = 27;
    private static final int DEAD = 28;
    private static final int READ = 29;
    private static final int YEAR = 30;
    private static final int LATE = 33;

    // The words in the order of their kinds from PERSON to LATE, eight places for each.
    private static final String WORDS = "person  clerk   barred  letter  if      proof   dies    fee     good    or      and     not     dead    read    year    age     shelf   late    ";
    private static final int WORD_COUNT = 18;

    private static final int RULES = 3;
    private static final int VARS = 4;
    private static final int STACK = 64;
    private static final int OPERAND_SHIFT = 8;
    private static final int OPERATION_MASK = 255;

    private static final int SYNTAX = 1;
    private static final int ROOM = 2;
    private static final int TWICE = 3;
    private static final int NO_NAME = 4;
    private static final int WRONG = 5;

    private static final int RUMOUR = 0;
    private static final int DEATH = 1;
    private static final int BACK = 2;
    private static final int EARLY = 3;
    private static final int DATE = 4;
    private static final int FLOOD = 5;
    private static final int VOID = 6;

    private static final int KEPT = 0;
    private static final int OPENED = 1;
    private static final int OPENED_EARLY = 2;
    private static final int TAKEN_BACK = 3;
    private static final int LOST = 4;
    private static final int LAPSED = 5;

    private static final int LOT_SALT = 18;
    private static final int LOT_FACTOR = 1103515245;
    private static final int LOT_MORE = 12345;
    private static final int SHELF_LOTS = 50;

    // Where the masks of 0, 1, 2 and 3 bits begin among those of at most 3 of 10 bits.
    private static final int[] FEW_STARTS = {0, 1, 11, 56, 176};
    private static final int FEW_MASKS = 176;

    private final Tape tape;
    private final Tokens tokens;
    private final Book book;
    private final Book draft;
    private final Parser parser;
    private final Reckoner reckoner;
    private final Facts facts;
    private final Facts[] slots;
    private final Courses courses;
    private final Ways ways;
    private final Rings circles;
    private int heldSlots;
    private int faultPlace;

    public AfterOffice() {
        tape = new Tape();
        tokens = new Tokens();
        book = new Book();
        draft = new Book();
        parser = new Parser(tokens, draft);
        reckoner = new Reckoner(book);
        facts = new Facts();
        slots = new Facts[SLOTS];
        for (int i = 0; i < SLOTS; i++) {
            slots[i] = new Facts();
        }
        courses = new Courses(book, facts, reckoner);
        ways = new Ways(book, reckoner);
        circles = new Rings(book);
        heldSlots = 0;
        faultPlace = NONE;
    }

    private static boolean within(int value, int least, int most) {
        return least <= value && value <= most;
    }

    private static int keepTo(int value, int most) {
        return Math.max(0, Math.min(most, value));
    }

    private static boolean has(int bits, int number) {
        return (bits >> number & 1) != 0;
    }

    private boolean isPerson(int person) {
        return within(person, 0, book.people - 1);
    }

    private boolean isLetter(int letter) {
        return within(letter, 0, book.letterCount - 1);
    }

    private boolean isYear(int year) {
        return within(year, 0, YEARS - 1);
    }

    private boolean isKnown(int n) {
        return within(n, 0, facts.size);
    }

    private boolean isLook(int k) {
        return within(k, 1, RAREST_LOOK);
    }

    /* Of people who are dead and letters that were read: only such as there are. */
    private boolean areThere(int dead, int been) {
        return within(dead, 0, (1 << book.people) - 1) && within(been, 0, (1 << book.letterCount) - 1);
    }

    public int feed(int a, int b, int c, int d, int e) {
        if (!tape.hasRoom()) {
            return NONE;
        }
        tape.add(a);
        tape.add(b);
        tape.add(c);
        tape.add(d);
        tape.add(e);
        return tape.size;
    }

    public int back(int n) {
        if (!within(n, 0, tape.size)) {
            return NONE;
        }
        tape.size -= n;
        return tape.size;
    }

    public int read() {
        tokens.scan(tape);
        tape.size = 0;
        parser.begin();
        parser.tellAll();
        parser.settle();
        faultPlace = parser.faultPlace;
        if (parser.fault != 0) {
            return parser.fault;
        }
        book.become(draft);
        reckoner.fillTables();
        facts.size = 0;
        heldSlots = 0;
        return 0;
    }

    public int place() {
        return faultPlace;
    }

    public int letter(int letter, int what) {
        if (!isLetter(letter)) {
            return NONE;
        }
        Letter one = book.letters[letter];
        switch (what) {
            case 0: return one.writer;
            case 1: return one.reader;
            case 2: return one.onShelf;
            case 3: return one.laidIn;
            case 4: return one.harms;
            default: return NONE;
        }
    }

    public int dies(int person, int year) {
        return isPerson(person) && isYear(year) ? reckoner.diesOf(person, year) : NONE;
    }

    public int fee(int letter, int year) {
        return isLetter(letter) && isYear(year) ? reckoner.feeOf(book.letters[letter].onShelf, year) : NONE;
    }

    public int clerk(int year) {
        return isYear(year) ? book.clerkOf(year) : NONE;
    }

    public int barred(int clerk, int person) {
        if (!within(clerk, 0, book.clerks - 1) || !isPerson(person)) {
            return NONE;
        }
        return has(book.bars[clerk], person) ? 1 : 0;
    }

    public int rumour(int year, int person, int weight) {
        boolean such = isYear(year) && isPerson(person) && within(weight, 1, MOST_WEIGHT);
        return such ? facts.add(RUMOUR, year, person, weight) : NONE;
    }

    public int death(int year, int person) {
        return isYear(year) && isPerson(person) ? facts.add(DEATH, year, person, NONE) : NONE;
    }

    public int takeBack(int year, int letter) {
        return isYear(year) && isLetter(letter) ? facts.add(BACK, year, letter, NONE) : NONE;
    }

    public int early(int year, int letter) {
        return isYear(year) && isLetter(letter) ? facts.add(EARLY, year, letter, NONE) : NONE;
    }

    public int date(int year, int letter, int x) {
        return isYear(year) && isLetter(letter) && isYear(x) ? facts.add(DATE, year, letter, x) : NONE;
    }

    public int flood(int year, int shelf) {
        return isYear(year) && within(shelf, 0, SHELVES - 1) ? facts.add(FLOOD, year, shelf, NONE) : NONE;
    }

    public int annul(int fact) {
        if (!within(fact, 0, facts.size - 1) || facts.kinds[fact] == VOID) {
            return NONE;
        }
        return facts.add(VOID, NONE, fact, NONE);
    }

    public int fact(int fact, int what) {
        if (!within(fact, 0, facts.size - 1)) {
            return NONE;
        }
        switch (what) {
            case 0: return facts.kinds[fact];
            case 1: return facts.years[fact];
            case 2: return facts.whom[fact];
            case 3: return facts.much[fact];
            default: return NONE;
        }
    }

    public int weighs(int person, int year, int n) {
        return isPerson(person) && isYear(year) && isKnown(n) ? facts.weightOf(person, year, n) : NONE;
    }

    public int run(int letter, int n, int k, int what) {
        if (!isLetter(letter) || !isKnown(n) || !isLook(k) || !within(what, 0, 2)) {
            return NONE;
        }
        Course course = courses.runOf(n, k, YEARS - 1);
        switch (what) {
            case 0: return course.states[letter];
            case 1: return course.states[letter] == KEPT ? NOT_SO : course.ends[letter];
            default: return course.left[letter];
        }
    }

    public int opened(int year, int n, int i) {
        if (!isYear(year) || !isKnown(n) || i < 0) {
            return NONE;
        }
        return courses.runOf(n, 1, year).openedAs(year, i);
    }

    public int why(int letter, int year, int n) {
        if (!isLetter(letter) || !isYear(year) || !isKnown(n)) {
            return NONE;
        }
        return courses.runOf(n, 1, year).reasonOf(letter, year);
    }

    public int harm(int n) {
        return isKnown(n) ? courses.runOf(n, 1, YEARS - 1).harmed : NONE;
    }

    public int tooSoon(int n) {
        return isKnown(n) ? courses.soonerThanTruth(n) : NONE;
    }

    public int wrong(int year, int n, int what) {
        if (!isYear(year) || !isKnown(n) || !within(what, 0, 1)) {
            return NONE;
        }
        int believed = 0;
        for (int person = 0; person < book.people; person++) {
            if (facts.weightOf(person, year, n) >= book.proof) {
                believed |= 1 << person;
            }
        }
        int died = facts.diedBy(year, n);
        return what == 0 ? believed & ~died : died & ~believed;
    }

    public int late(int letter, int n, int k) {
        if (!isLetter(letter) || !isKnown(n) || !isLook(k)) {
            return NONE;
        }
        courses.walkBoth(n, k);
        return courses.lateOf(letter);
    }

    public int watch(int n, int l) {
        return isKnown(n) && isYear(l) ? courses.rarestLook(n, l) : NONE;
    }

    public int gain(int n, int k) {
        if (!isKnown(n) || !isLook(k)) {
            return NONE;
        }
        courses.walkBoth(n, k);
        return courses.gainsFrom(0);
    }

    public int income(int n, int a, int b) {
        if (!isKnown(n) || !isYear(a) || !isYear(b) || b < a) {
            return NONE;
        }
        return courses.runOf(n, 1, b).paidFrom(a, b);
    }

    public int next(int year, int n) {
        return isYear(year) && isKnown(n) ? courses.runOf(n, 1, YEARS - 1).openingBehind(year) : NONE;
    }

    public int looks(int n, int what) {
        if (!isKnown(n) || !within(what, 0, 2)) {
            return NONE;
        }
        courses.seekTwoLooks(n);
        switch (what) {
            case 0: return courses.firstLook;
            case 1: return courses.secondLook;
            default: return courses.bestSum;
        }
    }

    public int need(int letter, int year, int dead, int been, int what) {
        if (!isLetter(letter) || !isYear(year) || !areThere(dead, been) || !within(what, 0, 2)) {
            return NONE;
        }
        if (!ways.seekNeed(book.letters[letter], year, dead, been)) {
            return NOT_SO;
        }
        switch (what) {
            case 0: return Integer.bitCount(ways.neededDead) + Integer.bitCount(ways.neededRead);
            case 1: return ways.neededDead;
            default: return ways.neededRead;
        }
    }

    public int asks(int letter) {
        return isLetter(letter) ? book.letters[letter].asked : NONE;
    }

    public int ring(int letter) {
        return isLetter(letter) ? circles.ringOf(letter) : NONE;
    }

    public int rings() {
        return circles.howMany();
    }

    public int burn() {
        return circles.fewestToBurn();
    }

    public int future(int letter, int year, int dead, int been, int what) {
        boolean such = isLetter(letter) && isYear(year) && areThere(dead, been) && within(what, 0, 2);
        if (!such || has(been, letter)) {
            return NONE;
        }
        if (book.people > FUTURE_PEOPLE || book.letterCount > FUTURE_LETTERS) {
            return NOT_SO;
        }
        ways.foresee(letter, year, dead, been);
        switch (what) {
            case 0: return ways.firstYear;
            case 1: return ways.lastYear;
            default: return ways.sure ? 1 : 0;
        }
    }

    public long lives(int person, int year, int n) {
        if (!isPerson(person) || !isYear(year) || !within(n, 0, LIVES_YEARS) || year + n > YEARS) {
            return NONE;
        }
        return ways.livesThrough(person, year, n);
    }

    public long odds(int letter, int year, int n) {
        if (!isLetter(letter) || !isYear(year) || !within(n, 1, ODDS_YEARS) || year + n > YEARS) {
            return NONE;
        }
        return book.people > ODDS_PEOPLE ? NOT_SO : ways.oddsOf(letter, year, n);
    }

    public int life(int seed, int w, int what) {
        if (!within(w, 0, HUNDRED) || !within(what, 0, 4)) {
            return NONE;
        }
        Course course = courses.lifeOf(seed, w);
        switch (what) {
            case 0: return course.lettersThatAre(OPENED);
            case 1: return course.lettersThatAre(LOST);
            case 2: return course.lettersThatAre(LAPSED);
            case 3: return (1 << book.people) - 1 & ~course.dead;
            default: return course.paidFrom(0, YEARS - 1);
        }
    }

    public int chance(int letter, int seed, int m, int w) {
        if (!isLetter(letter) || !within(m, 1, MOST_SEEDS) || !within(w, 0, HUNDRED)) {
            return NONE;
        }
        int good = 0;
        for (int i = 0; i < m; i++) {
            if (courses.lifeOf(seed + i, w).states[letter] == OPENED) {
                good++;
            }
        }
        return good;
    }

    public boolean hold(int slot) {
        if (!within(slot, 0, SLOTS - 1)) {
            return false;
        }
        slots[slot].become(facts);
        heldSlots |= 1 << slot;
        return true;
    }

    public boolean restore(int slot) {
        if (!within(slot, 0, SLOTS - 1) || !has(heldSlots, slot)) {
            return false;
        }
        facts.become(slots[slot]);
        return true;
    }

    public int count(int what) {
        switch (what) {
            case 0: return book.people;
            case 1: return book.clerks;
            case 2: return book.letterCount;
            case 3: return book.barCount;
            case 4: return book.proof;
            case 5: return facts.size;
            case 6: return tape.size;
            case 7: return Integer.bitCount(heldSlots);
            default: return NONE;
        }
    }

    /** The bytes that wait to be read. */
    private static final class Tape {
        final byte[] bytes = new byte[MOST_BYTES];
        int size;

        boolean hasRoom() {
            return size + FEED_BYTES <= MOST_BYTES;
        }

        void add(int four) {
            for (int shift = 24; shift >= 0 && size < MOST_BYTES; shift -= 8) {
                bytes[size] = (byte) (four >>> shift);
                size++;
            }
        }

        int byteAt(int at) {
            return within(at, 0, size - 1) ? bytes[at] & 255 : NONE;
        }
    }

    /** A text cut into tokens; the last entry is its end, what is no token, or the 401st token. */
    private static final class Tokens {
        final int[] kinds = new int[MOST_TOKENS + 1];
        final int[] places = new int[MOST_TOKENS + 1];
        final long[] values = new long[MOST_TOKENS + 1];
        final long[] words = new long[WORD_COUNT];
        int size;

        Tokens() {
            for (int i = 0; i < WORDS.length(); i++) {
                int word = i / LONGEST_NAME;
                char sign = WORDS.charAt(i);
                if (word < WORD_COUNT && sign != ' ') {
                    words[word] = words[word] << LETTER_BITS | sign - 'a' + 1;
                }
            }
        }

        void scan(Tape tape) {
            size = 0;
            int at = 0;
            while (size <= MOST_TOKENS) {
                while (at < tape.size && isBlank(tape.byteAt(at))) {
                    at++;
                }
                at = scanOne(tape, at);
                size++;
                if (kinds[size - 1] <= NO_TOKEN) {
                    return;
                }
            }
        }

        private static boolean isBlank(int sign) {
            return sign == 9 || sign == 10 || sign == 13 || sign == 32;
        }

        /* Answers where the token ends. */
        private int scanOne(Tape tape, int at) {
            places[size] = at;
            values[size] = 0;
            int sign = tape.byteAt(at);
            if (within(sign, 'a', 'z')) {
                return scanWord(tape, at);
            }
            if (within(sign, '0', '9')) {
                return scanInt(tape, at);
            }
            boolean isFollows = tape.byteAt(at + 1) == '=';
            kinds[size] = signKind(sign, isFollows);
            return kinds[size] == EQUAL || kinds[size] == UNEQUAL || kinds[size] == AT_MOST ? at + 2 : at + 1;
        }

        private int scanWord(Tape tape, int at) {
            int end = at;
            long packed = 0;
            while (end < tape.size && within(tape.byteAt(end), 'a', 'z')) {
                packed = packed << LETTER_BITS | tape.byteAt(end) - 'a' + 1;
                end++;
            }
            kinds[size] = end - at > LONGEST_NAME ? NO_TOKEN : wordKind(packed);
            values[size] = packed;
            return end;
        }

        private int wordKind(long packed) {
            for (int i = 0; i < WORD_COUNT; i++) {
                if (words[i] == packed) {
                    return PERSON + i;
                }
            }
            return NAME;
        }

        private int scanInt(Tape tape, int at) {
            int end = at;
            int value = 0;
            while (end < tape.size && within(tape.byteAt(end), '0', '9')) {
                value = value * 10 + tape.byteAt(end) - '0';
                end++;
            }
            kinds[size] = end - at > LONGEST_INT ? NO_TOKEN : INT;
            values[size] = value;
            return end;
        }

        private static int signKind(int sign, boolean isFollows) {
            switch (sign) {
                case NONE: return END;
                case ';': return SEMICOLON;
                case '+': return PLUS;
                case '-': return MINUS;
                case '*': return TIMES;
                case '/': return OVER;
                case '=': return isFollows ? EQUAL : IS;
                case '!': return isFollows ? UNEQUAL : NO_TOKEN;
                case '<': return isFollows ? AT_MOST : BELOW;
                case '(': return OPEN;
                case ')': return CLOSE;
                default: return NO_TOKEN;
            }
        }
    }

    /** Reads tokens into a book, and finds the fault of a text. */
    private static final class Parser {
        final Tokens tokens;
        final Book book;
        final long[] peopleNames = new long[MOST_PEOPLE];
        final long[] clerkNames = new long[MOST_CLERKS];
        final long[] letterNames = new long[MOST_LETTERS];
        final int[] waiting = new int[STACK];
        int at;
        int kind;
        int fault;
        int faultPlace;

        Parser(Tokens tokens, Book book) {
            this.tokens = tokens;
            this.book = book;
        }

        void begin() {
            book.clear();
            at = 0;
            kind = tokens.kinds[0];
            fault = 0;
            faultPlace = NONE;
        }

        void tellAll() {
            boolean good = true;
            for (int i = 0; i <= MOST_TOKENS && good && kind != END; i++) {
                good = tell();
            }
        }

        private boolean tell() {
            switch (kind) {
                case PERSON: return tellPerson();
                case CLERK: return tellClerk();
                case BARRED: return tellBarred();
                case LETTER: return tellLetter();
                case PROOF: return tellProof();
                case DIES:
                case FEE:
                case GOOD: return tellRule(kind - DIES);
                default: return stop(SYNTAX);
            }
        }

        /* A fault that ends the reading hides those that are looked for only if there is none such. */
        private boolean stop(int number) {
            fault = number;
            faultPlace = tokens.places[at];
            return false;
        }

        private boolean take(int wanted) {
            boolean fits = kind == wanted;
            if (!fits || at >= MOST_TOKENS) {
                fault = fits ? ROOM : SYNTAX;
                faultPlace = tokens.places[at];
                return false;
            }
            at++;
            kind = tokens.kinds[at];
            return true;
        }

        /* Keeps the first one by its place, for what is read of letters is looked up last. */
        private void mark(int number, int token) {
            int place = tokens.places[token];
            if (fault == 0 || place < faultPlace || place == faultPlace && number < fault) {
                fault = number;
                faultPlace = place;
            }
        }

        private static int find(long[] names, int size, long name) {
            for (int i = 0; i < size && i < names.length; i++) {
                if (names[i] == name) {
                    return i;
                }
            }
            return NONE;
        }

        private boolean takeNewName(long[] names, int size) {
            long name = tokens.values[at];
            int token = at;
            if (!take(NAME)) {
                return false;
            }
            boolean told = find(peopleNames, book.people, name) >= 0
                    || find(clerkNames, book.clerks, name) >= 0
                    || find(letterNames, book.letterCount, name) >= 0;
            if (told) {
                mark(TWICE, token);
            }
            if (size < names.length) {
                names[size] = name;
            }
            return true;
        }

        /* The number of one told ahead (0 where the name is at fault), NONE where the syntax is. */
        private int takeTold(long[] names, int size) {
            long name = tokens.values[at];
            int token = at;
            if (!take(NAME)) {
                return NONE;
            }
            int found = find(names, size, name);
            if (found < 0) {
                mark(NO_NAME, token);
                return 0;
            }
            return found;
        }

        private int takeInt(int least, int most) {
            int value = (int) tokens.values[at];
            int token = at;
            if (!take(INT)) {
                return NONE;
            }
            if (!within(value, least, most)) {
                mark(WRONG, token);
            }
            return value;
        }

        private boolean tellPerson() {
            if (book.people >= MOST_PEOPLE) {
                return stop(ROOM);
            }
            if (!take(PERSON) || !takeNewName(peopleNames, book.people)) {
                return false;
            }
            int age = takeInt(0, MOST_AGE);
            book.ages[book.people] = age;
            book.people++;
            return age >= 0 && take(SEMICOLON);
        }

        private boolean tellClerk() {
            if (book.clerks >= MOST_CLERKS) {
                return stop(ROOM);
            }
            if (!take(CLERK) || !takeNewName(clerkNames, book.clerks)) {
                return false;
            }
            book.clerks++;
            return take(SEMICOLON);
        }

        private boolean tellBarred() {
            if (book.barCount >= MOST_BARS) {
                return stop(ROOM);
            }
            if (!take(BARRED)) {
                return false;
            }
            int clerk = takeTold(clerkNames, book.clerks);
            if (clerk < 0) {
                return false;
            }
            int person = takeTold(peopleNames, book.people);
            if (person < 0) {
                return false;
            }
            book.bars[clerk] |= 1 << person;
            book.barCount++;
            return take(SEMICOLON);
        }

        private boolean tellLetter() {
            if (book.letterCount >= MOST_LETTERS) {
                return stop(ROOM);
            }
            if (!take(LETTER) || !takeNewName(letterNames, book.letterCount)) {
                return false;
            }
            Letter letter = book.letters[book.letterCount];
            book.letterCount++;
            letter.writer = takeTold(peopleNames, book.people);
            if (letter.writer < 0) {
                return false;
            }
            letter.reader = takeTold(peopleNames, book.people);
            if (letter.reader < 0 || !takeLetterInts(letter)) {
                return false;
            }
            letter.from = book.codeSize;
            if (kind == IF && (!take(IF) || !condition())) {
                return false;
            }
            letter.to = book.codeSize;
            return take(SEMICOLON);
        }

        private boolean takeLetterInts(Letter letter) {
            letter.onShelf = takeInt(0, SHELVES - 1);
            if (letter.onShelf < 0) {
                return false;
            }
            letter.laidIn = takeInt(0, MOST_MONEY);
            if (letter.laidIn < 0) {
                return false;
            }
            letter.harms = takeInt(0, MOST_HARM);
            return letter.harms >= 0;
        }

        private boolean tellProof() {
            if (!take(PROOF)) {
                return false;
            }
            book.proof = takeInt(1, MOST_PROOF);
            return book.proof >= 0 && take(SEMICOLON);
        }

        private boolean tellRule(int rule) {
            if (!take(DIES + rule) || !take(IS)) {
                return false;
            }
            int from = book.codeSize;
            if (!expression()) {
                return false;
            }
            book.ruleFrom[rule] = from;
            book.ruleTo[rule] = book.codeSize;
            return take(SEMICOLON);
        }

        private void emit(int operation, int operand) {
            if (book.codeSize < MOST_TOKENS) {
                book.code[book.codeSize] = operation | operand << OPERAND_SHIFT;
                book.codeSize++;
            }
        }

        /* An 'or' waits till what binds closer behind it has been told. */
        private boolean condition() {
            if (!literal()) {
                return false;
            }
            boolean orWaits = false;
            for (int i = 0; i <= MOST_TOKENS && (kind == AND || kind == OR); i++) {
                int word = kind;
                if (word == OR && orWaits) {
                    emit(OR, 0);
                }
                if (!take(word) || !literal()) {
                    return false;
                }
                if (word == AND) {
                    emit(AND, 0);
                }
                orWaits = orWaits || word == OR;
            }
            if (orWaits) {
                emit(OR, 0);
            }
            return true;
        }

        private boolean literal() {
            boolean turned = false;
            for (int i = 0; i <= MOST_TOKENS && kind == NOT; i++) {
                if (!take(NOT)) {
                    return false;
                }
                turned = !turned;
            }
            if (kind == DEAD) {
                int person = take(DEAD) ? takeTold(peopleNames, book.people) : NONE;
                if (person < 0) {
                    return false;
                }
                emit(DEAD, person);
            } else if (kind == READ) {
                if (!take(READ)) {
                    return false;
                }
                emit(READ, at);
                if (!take(NAME)) {
                    return false;
                }
            } else {
                if (!expression()) {
                    return false;
                }
                int sign = kind;
                if (!within(sign, EQUAL, AT_MOST)) {
                    return stop(SYNTAX);
                }
                if (!take(sign) || !expression()) {
                    return false;
                }
                emit(sign, 0);
            }
            if (turned) {
                emit(NOT, 0);
            }
            return true;
        }

        /* Signs wait on a stack till a sign that binds no closer, or the end, lets them out. */
        private boolean expression() {
            int size = 0;
            int nested = 0;
            boolean unitComes = true;
            for (int i = 0; i <= MOST_TOKENS; i++) {
                int token = kind;
                if (unitComes && token == OPEN) {
                    if (nested >= MOST_NESTED || size >= STACK) {
                        return stop(ROOM);
                    }
                    nested++;
                    waiting[size] = OPEN;
                    size++;
                } else if (unitComes) {
                    if (token != INT && !within(token, YEAR, LATE)) {
                        return stop(SYNTAX);
                    }
                    emit(token, token == INT ? (int) tokens.values[at] : 0);
                    unitComes = false;
                } else {
                    int closeness = Math.max(1, closenessOf(token));
                    while (size > 0 && closenessOf(waiting[size - 1]) >= closeness) {
                        size--;
                        emit(waiting[size], 0);
                    }
                    if (closenessOf(token) > 0 && size < STACK) {
                        waiting[size] = token;
                        size++;
                        unitComes = true;
                    } else if (token == CLOSE && nested > 0 && size > 0) {
                        nested--;
                        size--;
                    } else {
                        return nested == 0 || stop(SYNTAX);
                    }
                }
                if (!take(token)) {
                    return false;
                }
            }
            return stop(ROOM);
        }

        private static int closenessOf(int sign) {
            switch (sign) {
                case PLUS:
                case MINUS: return 1;
                case TIMES:
                case OVER: return 2;
                default: return 0;
            }
        }

        /* A condition may name letters that stand behind it, so they are looked up when all are told. */
        void settle() {
            if (fault == SYNTAX || fault == ROOM) {
                return;
            }
            for (int i = 0; i < book.letterCount; i++) {
                Letter letter = book.letters[i];
                letter.asked = 0;
                for (int j = letter.from; j < letter.to; j++) {
                    if ((book.code[j] & OPERATION_MASK) == READ) {
                        settleRead(letter, j);
                    }
                }
            }
        }

        private void settleRead(Letter letter, int j) {
            int token = book.code[j] >> OPERAND_SHIFT;
            if (!within(token, 0, MOST_TOKENS)) {
                return;
            }
            int found = find(letterNames, book.letterCount, tokens.values[token]);
            if (found < 0) {
                mark(NO_NAME, token);
            } else {
                book.code[j] = READ | found << OPERAND_SHIFT;
                letter.asked |= 1 << found;
            }
        }
    }

    /** A letter as it was told. */
    private static final class Letter {
        int writer;
        int reader;
        int onShelf;
        int laidIn;
        int harms;
        int from;
        int to;
        int asked;

        void become(Letter other) {
            writer = other.writer;
            reader = other.reader;
            onShelf = other.onShelf;
            laidIn = other.laidIn;
            harms = other.harms;
            from = other.from;
            to = other.to;
            asked = other.asked;
        }
    }

    /** What a text has told. */
    private static final class Book {
        final int[] ages = new int[MOST_PEOPLE];
        final int[] bars = new int[MOST_CLERKS];
        final Letter[] letters = new Letter[MOST_LETTERS];
        final int[] code = new int[MOST_TOKENS];
        final int[] ruleFrom = new int[RULES];
        final int[] ruleTo = new int[RULES];
        int people;
        int clerks;
        int barCount;
        int letterCount;
        int proof;
        int codeSize;

        Book() {
            for (int i = 0; i < MOST_LETTERS; i++) {
                letters[i] = new Letter();
            }
            clear();
        }

        void clear() {
            people = 0;
            clerks = 0;
            barCount = 0;
            letterCount = 0;
            proof = USUAL_PROOF;
            codeSize = 0;
            Arrays.fill(bars, 0);
            Arrays.fill(ruleFrom, NONE);
            Arrays.fill(ruleTo, NONE);
        }

        void become(Book other) {
            people = other.people;
            clerks = other.clerks;
            barCount = other.barCount;
            letterCount = other.letterCount;
            proof = other.proof;
            codeSize = other.codeSize;
            System.arraycopy(other.ages, 0, ages, 0, MOST_PEOPLE);
            System.arraycopy(other.bars, 0, bars, 0, MOST_CLERKS);
            System.arraycopy(other.code, 0, code, 0, MOST_TOKENS);
            System.arraycopy(other.ruleFrom, 0, ruleFrom, 0, RULES);
            System.arraycopy(other.ruleTo, 0, ruleTo, 0, RULES);
            for (int i = 0; i < letterCount; i++) {
                letters[i].become(other.letters[i]);
            }
        }

        int clerkOf(int year) {
            return clerks > 0 ? year % clerks : NOT_SO;
        }

        boolean clerkMay(int year, int reader) {
            return clerks <= 0 || !has(bars[year % clerks], reader);
        }
    }

    /** Reckons out conditions and rules. */
    private static final class Reckoner {
        final Book book;
        final int[] stack = new int[STACK];
        final int[] vars = new int[VARS];
        final int[] dying = new int[MOST_PEOPLE * YEARS];
        final int[] fees = new int[SHELVES * YEARS];
        int dead;
        int been;
        boolean broken;

        Reckoner(Book book) {
            this.book = book;
        }

        /* The rules are asked for so often that what they say is reckoned out once for each text. */
        void fillTables() {
            for (int year = 0; year < YEARS; year++) {
                for (int person = 0; person < book.people; person++) {
                    int says = ruled(DIES, year, book.ages[person] + year, 0, 0);
                    dying[person * YEARS + year] = keepTo(says, HUNDRED);
                }
                for (int shelf = 0; shelf < SHELVES; shelf++) {
                    int says = ruled(FEE, year, 0, shelf, 0);
                    fees[shelf * YEARS + year] = keepTo(says, MOST_MONEY);
                }
            }
        }

        int diesOf(int person, int year) {
            int at = person * YEARS + year;
            return at >= 0 && at < dying.length ? dying[at] : 0;
        }

        int feeOf(int shelf, int year) {
            int at = shelf * YEARS + year;
            return at >= 0 && at < fees.length ? fees[at] : 0;
        }

        int gainIn(int year, int shelf, int late) {
            return keepTo(ruled(GOOD, year, 0, shelf, late), MOST_MONEY);
        }

        private int ruled(int word, int year, int age, int shelf, int late) {
            int rule = word - DIES;
            if (book.ruleFrom[rule] < 0) {
                return word == FEE ? USUAL_FEE : 0;
            }
            vars[0] = year;
            vars[1] = age;
            vars[2] = shelf;
            vars[3] = late;
            int says = execute(book.ruleFrom[rule], book.ruleTo[rule]);
            return broken ? 0 : says;
        }

        boolean holds(Letter letter, int year, int deadOnes, int readOnes) {
            if (letter.from >= letter.to) {
                return true;
            }
            vars[0] = year;
            vars[1] = 0;
            vars[2] = 0;
            vars[3] = 0;
            dead = deadOnes;
            been = readOnes;
            return execute(letter.from, letter.to) != 0;
        }

        private int execute(int from, int to) {
            int size = 0;
            broken = false;
            for (int i = Math.max(0, from); i < to && i < book.codeSize; i++) {
                int operation = book.code[i] & OPERATION_MASK;
                int operand = book.code[i] >> OPERAND_SHIFT;
                boolean isValue = operation == INT || operation >= DEAD;
                if (isValue && size < STACK) {
                    stack[size] = valueOf(operation, operand);
                    size++;
                } else if (operation == NOT && size >= 1) {
                    stack[size - 1] = 1 - stack[size - 1];
                } else if (!isValue && size >= 2) {
                    size--;
                    int a = stack[size - 1];
                    int b = stack[size];
                    boolean isComparison = operation >= EQUAL && operation <= AT_MOST;
                    stack[size - 1] = isComparison ? compared(operation, a, b) : joined(operation, a, b);
                }
            }
            return stack[0];
        }

        private int valueOf(int operation, int operand) {
            switch (operation) {
                case INT: return operand;
                case DEAD: return dead >> operand & 1;
                case READ: return been >> operand & 1;
                default: return operation >= YEAR && operation <= LATE ? vars[operation - YEAR] : 0;
            }
        }

        private int joined(int operation, int a, int b) {
            switch (operation) {
                case PLUS: return a + b;
                case MINUS: return a - b;
                case TIMES: return a * b;
                case AND: return a & b;
                case OR: return a | b;
                default:
                    broken = broken || b == 0;
                    return b == 0 ? 0 : a / b;
            }
        }

        /* A division by 0 spoils the one comparison that it stands in. */
        private int compared(int sign, int a, int b) {
            boolean whole = !broken;
            broken = false;
            boolean so;
            switch (sign) {
                case EQUAL: so = a == b; break;
                case UNEQUAL: so = a != b; break;
                case BELOW: so = a < b; break;
                default: so = a <= b; break;
            }
            return whole && so ? 1 : 0;
        }
    }

    /** What has been told year by year. */
    private static final class Facts {
        final int[] kinds = new int[MOST_FACTS];
        final int[] years = new int[MOST_FACTS];
        final int[] whom = new int[MOST_FACTS];
        final int[] much = new int[MOST_FACTS];
        final int[] sorted = new int[MOST_FACTS];
        final int[] starts = new int[YEARS + 1];
        int size;

        int add(int kind, int year, int who, int how) {
            if (size >= MOST_FACTS) {
                return NONE;
            }
            kinds[size] = kind;
            years[size] = year;
            whom[size] = who;
            much[size] = how;
            size++;
            return size - 1;
        }

        void become(Facts other) {
            size = other.size;
            System.arraycopy(other.kinds, 0, kinds, 0, size);
            System.arraycopy(other.years, 0, years, 0, size);
            System.arraycopy(other.whom, 0, whom, 0, size);
            System.arraycopy(other.much, 0, much, 0, size);
        }

        /* A bit for each fact that a void among the first n names. */
        private long annulledBy(int n) {
            long bits = 0;
            for (int i = 0; i < n; i++) {
                if (kinds[i] == VOID) {
                    bits |= 1L << whom[i];
                }
            }
            return bits;
        }

        /* A void, which is of no year, is none of the facts that are known. */
        private boolean counts(int i, long annulled) {
            return within(years[i], 0, YEARS - 1) && (annulled >> i & 1) == 0;
        }

        /* Sorts what is known by years, in each by numbers; the last are laid first, each ahead of its year's. */
        void arrange(int n) {
            long annulled = annulledBy(n);
            Arrays.fill(starts, 0);
            for (int i = 0; i < n; i++) {
                if (counts(i, annulled)) {
                    starts[years[i]]++;
                }
            }
            for (int year = 1; year <= YEARS; year++) {
                starts[year] += starts[year - 1];
            }
            for (int i = n - 1; i >= 0; i--) {
                if (counts(i, annulled)) {
                    starts[years[i]]--;
                    sorted[starts[years[i]]] = i;
                }
            }
        }

        int weightOf(int person, int year, int n) {
            long annulled = annulledBy(n);
            int sum = 0;
            for (int i = 0; i < n; i++) {
                if (kinds[i] == RUMOUR && whom[i] == person && years[i] <= year && counts(i, annulled)) {
                    sum += much[i];
                }
            }
            return sum;
        }

        int diedBy(int year, int n) {
            long annulled = annulledBy(n);
            int bits = 0;
            for (int i = 0; i < n; i++) {
                if (kinds[i] == DEATH && years[i] <= year && counts(i, annulled)) {
                    bits |= 1 << whom[i];
                }
            }
            return bits;
        }
    }

    /** One run of the years, as it stands at the end of one of them. */
    private static final class Course {
        final Book book;
        final Facts facts;
        final Reckoner reckoner;
        final int[] states = new int[MOST_LETTERS];
        final int[] ends = new int[MOST_LETTERS];
        final int[] left = new int[MOST_LETTERS];
        final int[] dates = new int[MOST_LETTERS];
        final int[] order = new int[MOST_LETTERS];
        final int[] weights = new int[MOST_PEOPLE];
        final int[] paid = new int[YEARS];
        int orderSize;
        int dead;
        int been;
        int harmed;
        boolean byTruth;

        Course(Book book, Facts facts, Reckoner reckoner) {
            this.book = book;
            this.facts = facts;
            this.reckoner = reckoner;
        }

        void begin(boolean truth) {
            Arrays.fill(states, KEPT);
            Arrays.fill(ends, NOT_SO);
            Arrays.fill(dates, 0);
            Arrays.fill(weights, 0);
            Arrays.fill(paid, 0);
            for (int i = 0; i < book.letterCount; i++) {
                left[i] = book.letters[i].laidIn;
            }
            orderSize = 0;
            dead = 0;
            been = 0;
            harmed = 0;
            byTruth = truth;
        }

        void become(Course other) {
            System.arraycopy(other.states, 0, states, 0, MOST_LETTERS);
            System.arraycopy(other.ends, 0, ends, 0, MOST_LETTERS);
            System.arraycopy(other.left, 0, left, 0, MOST_LETTERS);
            System.arraycopy(other.dates, 0, dates, 0, MOST_LETTERS);
            System.arraycopy(other.order, 0, order, 0, MOST_LETTERS);
            System.arraycopy(other.weights, 0, weights, 0, MOST_PEOPLE);
            System.arraycopy(other.paid, 0, paid, 0, YEARS);
            orderSize = other.orderSize;
            dead = other.dead;
            been = other.been;
            harmed = other.harmed;
            byTruth = other.byTruth;
        }

        /* The facts must be arranged. */
        void walk(int k, int lastYear, boolean truth) {
            begin(truth);
            for (int year = 0; year <= lastYear && year < YEARS; year++) {
                takeFacts(year);
                payFees(year);
                if (k > 0 && year % k == 0) {
                    lookUp(year);
                }
            }
        }

        void takeFacts(int year) {
            for (int i = facts.starts[year]; i < facts.starts[year + 1]; i++) {
                takeFact(facts.sorted[i], year);
            }
        }

        private void takeFact(int number, int year) {
            int who = facts.whom[number];
            if (who < 0 || who >= MOST_LETTERS || who >= MOST_PEOPLE) {
                return;
            }
            switch (facts.kinds[number]) {
                case RUMOUR:
                    weights[who] += facts.much[number];
                    if (!byTruth && weights[who] >= book.proof) {
                        dead |= 1 << who;
                    }
                    break;
                case DEATH:
                    if (byTruth) {
                        dead |= 1 << who;
                    }
                    break;
                case BACK:
                    if (states[who] == KEPT && !has(dead, book.letters[who].writer)) {
                        endAs(TAKEN_BACK, who, year);
                    }
                    break;
                case EARLY:
                    if (states[who] == KEPT) {
                        boolean fit = reckoner.holds(book.letters[who], year, dead, been);
                        harmed += fit ? 0 : book.letters[who].harms;
                        endAs(OPENED_EARLY, who, year);
                        been |= 1 << who;
                    }
                    break;
                case DATE:
                    dates[who] = facts.much[number];
                    break;
                default:
                    floodShelf(who, year);
                    break;
            }
        }

        private void endAs(int state, int letter, int year) {
            states[letter] = state;
            ends[letter] = year;
        }

        private void floodShelf(int shelf, int year) {
            for (int i = 0; i < book.letterCount; i++) {
                if (states[i] == KEPT && book.letters[i].onShelf == shelf) {
                    endAs(LOST, i, year);
                }
            }
        }

        void payFees(int year) {
            for (int i = 0; i < book.letterCount; i++) {
                if (states[i] != KEPT) {
                    continue;
                }
                int fee = reckoner.feeOf(book.letters[i].onShelf, year);
                if (has(dead, book.letters[i].writer)) {
                    if (left[i] < fee) {
                        fee = left[i];
                        endAs(LAPSED, i, year);
                    }
                    left[i] -= fee;
                }
                paid[year] += fee;
            }
        }

        void lookUp(int year) {
            for (int i = 0; i < MOST_LETTERS; i++) {
                int due = firstDue(year);
                if (due < 0 || orderSize >= MOST_LETTERS) {
                    return;
                }
                endAs(OPENED, due, year);
                been |= 1 << due;
                order[orderSize] = due;
                orderSize++;
            }
        }

        private int firstDue(int year) {
            for (int i = 0; i < book.letterCount; i++) {
                Letter letter = book.letters[i];
                if (states[i] == KEPT && dates[i] <= year && !has(dead, letter.reader)
                        && book.clerkMay(year, letter.reader) && reckoner.holds(letter, year, dead, been)) {
                    return i;
                }
            }
            return NONE;
        }

        /* Takes back what the latest look opened, so that another one can be tried from there. */
        void shutAgain(int openedAhead, int readAhead) {
            for (int i = openedAhead; i < orderSize; i++) {
                endAs(KEPT, order[i], NOT_SO);
            }
            orderSize = openedAhead;
            been = readAhead;
        }

        int openedAs(int year, int rank) {
            int seen = 0;
            for (int i = 0; i < orderSize; i++) {
                if (ends[order[i]] == year) {
                    if (seen == rank) {
                        return order[i];
                    }
                    seen++;
                }
            }
            return NONE;
        }

        int reasonOf(int letter, int year) {
            if (hasBeenOpened(letter)) {
                return 0;
            }
            Letter one = book.letters[letter];
            if (states[letter] != KEPT) {
                return 1;
            }
            if (!reckoner.holds(one, year, dead, been)) {
                return 2;
            }
            if (dates[letter] > year) {
                return 3;
            }
            return has(dead, one.reader) ? 4 : 5;
        }

        boolean hasBeenOpened(int letter) {
            return states[letter] == OPENED || states[letter] == OPENED_EARLY;
        }

        int paidFrom(int first, int last) {
            int sum = 0;
            for (int year = first; year <= last && year < YEARS; year++) {
                sum += paid[year];
            }
            return sum;
        }

        int openingBehind(int year) {
            int first = YEARS;
            for (int i = 0; i < orderSize; i++) {
                int end = ends[order[i]];
                if (end > year && end < first) {
                    first = end;
                }
            }
            return first < YEARS ? first : NOT_SO;
        }

        int lettersThatAre(int state) {
            int bits = 0;
            for (int i = 0; i < book.letterCount; i++) {
                if (states[i] == state) {
                    bits |= 1 << i;
                }
            }
            return bits;
        }

        void liveByLots(int seed, int w) {
            begin(true);
            for (int year = 0; year < YEARS; year++) {
                for (int person = 0; person < book.people; person++) {
                    if (!has(dead, person) && lot(seed, HUNDRED * year + person) < reckoner.diesOf(person, year)) {
                        dead |= 1 << person;
                    }
                }
                for (int shelf = 0; shelf < SHELVES; shelf++) {
                    if (lot(seed, HUNDRED * year + SHELF_LOTS + shelf) < w) {
                        floodShelf(shelf, year);
                    }
                }
                payFees(year);
                lookUp(year);
            }
        }

        /* All lots that are drawn are of a hundred. */
        private static int lot(int seed, int which) {
            int h = (seed ^ LOT_SALT) * LOT_FACTOR + LOT_MORE;
            h ^= h >>> 15;
            h = (h ^ which) * LOT_FACTOR + LOT_MORE;
            h ^= h >>> 15;
            return (h >>> 1) % HUNDRED;
        }
    }

    /** Runs that are set side by side. */
    private static final class Courses {
        final Book book;
        final Facts facts;
        final Reckoner reckoner;
        final Course yearly;
        final Course other;
        final Course unlooked;
        int firstLook;
        int secondLook;
        int bestSum;

        Courses(Book book, Facts facts, Reckoner reckoner) {
            this.book = book;
            this.facts = facts;
            this.reckoner = reckoner;
            yearly = new Course(book, facts, reckoner);
            other = new Course(book, facts, reckoner);
            unlooked = new Course(book, facts, reckoner);
        }

        Course runOf(int n, int k, int lastYear) {
            facts.arrange(n);
            other.walk(k, lastYear, false);
            return other;
        }

        Course lifeOf(int seed, int w) {
            other.liveByLots(seed, w);
            return other;
        }

        int soonerThanTruth(int n) {
            facts.arrange(n);
            yearly.walk(1, YEARS - 1, false);
            other.walk(1, YEARS - 1, true);
            int bits = 0;
            for (int i = 0; i < book.letterCount; i++) {
                boolean asSoon = other.states[i] == OPENED && other.ends[i] <= yearly.ends[i];
                if (yearly.states[i] == OPENED && !asSoon) {
                    bits |= 1 << i;
                }
            }
            return bits;
        }

        void walkBoth(int n, int k) {
            facts.arrange(n);
            yearly.walk(1, YEARS - 1, false);
            other.walk(k, YEARS - 1, false);
        }

        /* What a look opens in one run and a hand in the other is opened with both in neither way. */
        int lateOf(int letter) {
            if (bothHave(OPENED, letter)) {
                return other.ends[letter] - yearly.ends[letter];
            }
            return bothHave(OPENED_EARLY, letter) ? 0 : NOT_SO;
        }

        private boolean bothHave(int state, int letter) {
            return yearly.states[letter] == state && other.states[letter] == state;
        }

        int rarestLook(int n, int l) {
            facts.arrange(n);
            yearly.walk(1, YEARS - 1, false);
            for (int k = RAREST_LOOK; k > 1; k--) {
                other.walk(k, YEARS - 1, false);
                if (allInTime(l)) {
                    return k;
                }
            }
            return 1;
        }

        private boolean allInTime(int l) {
            for (int i = 0; i < book.letterCount; i++) {
                boolean inTime = bothHave(OPENED, i) && lateOf(i) <= l;
                if (yearly.states[i] == OPENED && !inTime) {
                    return false;
                }
            }
            return true;
        }

        /* The gains of what the other run opened, from the one of that rank on. */
        int gainsFrom(int rank) {
            int sum = 0;
            for (int i = rank; i < other.orderSize; i++) {
                int letter = other.order[i];
                sum += reckoner.gainIn(other.ends[letter], book.letters[letter].onShelf, lateOf(letter));
            }
            return sum;
        }

        void seekTwoLooks(int n) {
            facts.arrange(n);
            yearly.walk(1, YEARS - 1, false);
            unlooked.begin(false);
            bestSum = NONE;
            for (int a = 0; a < YEARS - 1; a++) {
                unlooked.takeFacts(a);
                unlooked.payFees(a);
                other.become(unlooked);
                other.lookUp(a);
                trySecondLooks(a);
            }
        }

        /* What a second look opens is shut again: the years go on from the first look alone. */
        private void trySecondLooks(int a) {
            int gained = gainsFrom(0);
            int openedAhead = other.orderSize;
            for (int b = a + 1; b < YEARS; b++) {
                other.takeFacts(b);
                other.payFees(b);
                int readAhead = other.been;
                other.lookUp(b);
                int sum = gained + gainsFrom(openedAhead);
                if (sum > bestSum) {
                    bestSum = sum;
                    firstLook = a;
                    secondLook = b;
                }
                other.shutAgain(openedAhead, readAhead);
            }
        }
    }

    /** What could come: needs, futures and odds. */
    private static final class Ways {
        final Book book;
        final Reckoner reckoner;
        final int[] few = new int[FEW_MASKS];
        final long[] reach = new long[1 << FUTURE_PEOPLE];
        int neededDead;
        int neededRead;
        int firstYear;
        int lastYear;
        boolean sure;

        Ways(Book book, Reckoner reckoner) {
            this.book = book;
            this.reckoner = reckoner;
            fillFew();
        }

        /* Masks of at most three bits, of each number of bits the least first. */
        private void fillFew() {
            int ones = FEW_STARTS[1];
            int twos = FEW_STARTS[2];
            int threes = FEW_STARTS[3];
            few[0] = 0;
            for (int high = 0; high < MOST_PEOPLE; high++) {
                few[ones] = 1 << high;
                ones++;
                for (int middle = 0; middle < high; middle++) {
                    few[twos] = 1 << high | 1 << middle;
                    twos++;
                    for (int low = 0; low < middle; low++) {
                        few[threes] = 1 << high | 1 << middle | 1 << low;
                        threes++;
                    }
                }
            }
        }

        boolean seekNeed(Letter letter, int year, int dead, int been) {
            for (int total = 0; total <= MOST_NEEDED; total++) {
                for (int deaths = 0; deaths <= total; deaths++) {
                    if (seekNeedOf(letter, year, dead, been, deaths, total - deaths)) {
                        return true;
                    }
                }
            }
            return false;
        }

        private boolean seekNeedOf(Letter letter, int year, int dead, int been, int deaths, int reads) {
            int end = FEW_STARTS[deaths + 1];
            for (int i = FEW_STARTS[deaths]; i < end && few[i] >> book.people == 0; i++) {
                if ((few[i] & dead) != 0) {
                    continue;
                }
                int readEnd = FEW_STARTS[reads + 1];
                for (int j = FEW_STARTS[reads]; j < readEnd && few[j] >> book.letterCount == 0; j++) {
                    boolean more = (few[j] & been) == 0;
                    if (more && reckoner.holds(letter, year, dead | few[i], been | few[j])) {
                        neededDead = few[i];
                        neededRead = few[j];
                        return true;
                    }
                }
            }
            return false;
        }

        /* What has been read when the look of a year is over. */
        private int lookUp(int year, int dead, int been) {
            int readOnes = been;
            for (int i = 0; i < MOST_LETTERS; i++) {
                int due = firstDue(year, dead, readOnes);
                if (due < 0) {
                    break;
                }
                readOnes |= 1 << due;
            }
            return readOnes;
        }

        private int firstDue(int year, int dead, int been) {
            for (int i = 0; i < book.letterCount; i++) {
                Letter letter = book.letters[i];
                if (!has(been, i) && !has(dead, letter.reader) && book.clerkMay(year, letter.reader)
                        && reckoner.holds(letter, year, dead, been)) {
                    return i;
                }
            }
            return NONE;
        }

        /* For each set of dead people the sets of read letters that some future has, as long as the letter is shut. */
        void foresee(int letter, int year, int dead, int been) {
            Arrays.fill(reach, 0);
            firstYear = NOT_SO;
            lastYear = NOT_SO;
            reach[dead] = 1L << been;
            for (int y = year; y < YEARS; y++) {
                for (int ones = (1 << book.people) - 1; ones >= 0; ones--) {
                    reach[ones] = lookAtAll(letter, y, ones, cameTo(ones));
                }
            }
            sure = true;
            for (int ones = 0; ones < 1 << book.people; ones++) {
                sure = sure && reach[ones] == 0;
            }
        }

        /* Smaller sets of dead people are still those of the year ahead, as the greatest come first. */
        private long cameTo(int dead) {
            long sets = reach[dead];
            for (int person = 0; person < book.people; person++) {
                if (has(dead, person)) {
                    sets |= reach[dead & ~(1 << person)];
                }
            }
            return sets;
        }

        private long lookAtAll(int letter, int year, int dead, long sets) {
            long shut = 0;
            long rest = sets;
            for (int i = 0; i < 1 << FUTURE_LETTERS && rest != 0; i++) {
                int readOnes = lookUp(year, dead, Long.numberOfTrailingZeros(rest));
                if (!has(readOnes, letter)) {
                    shut |= 1L << readOnes;
                } else {
                    lastYear = year;
                    firstYear = firstYear < 0 ? year : firstYear;
                }
                rest &= rest - 1;
            }
            return shut;
        }

        long livesThrough(int person, int year, int n) {
            long product = 1;
            for (int x = year; x < year + n && x < YEARS; x++) {
                product *= HUNDRED - reckoner.diesOf(person, x);
            }
            return product;
        }

        /* By how many ways just these are dead in a year, of whom some were so ahead. */
        private long waysTo(int dead, int ahead, int year) {
            long product = 1;
            for (int person = 0; person < book.people; person++) {
                int dies = reckoner.diesOf(person, year);
                if (has(ahead, person)) {
                    product *= HUNDRED;
                } else {
                    product *= has(dead, person) ? dies : HUNDRED - dies;
                }
            }
            return product;
        }

        long oddsOf(int letter, int year, int n) {
            int all = (1 << book.people) - 1;
            long sum = 0;
            for (int dead = 0; dead <= all; dead++) {
                long first = waysTo(dead, 0, year);
                if (first == 0) {
                    continue;
                }
                int readOnes = lookUp(year, dead, 0);
                if (has(readOnes, letter)) {
                    sum += n == 1 ? first : first * waysTo(all, all, year);
                } else if (n > 1) {
                    sum += first * oddsOfNext(letter, year + 1, dead, readOnes);
                }
            }
            return sum;
        }

        private long oddsOfNext(int letter, int year, int ahead, int been) {
            long sum = 0;
            for (int dead = ahead; dead < 1 << book.people; dead++) {
                if ((dead & ahead) != ahead) {
                    continue;
                }
                long ways = waysTo(dead, ahead, year);
                if (ways != 0 && has(lookUp(year, dead, been), letter)) {
                    sum += ways;
                }
            }
            return sum;
        }
    }

    /** Letters that ask for each other. */
    private static final class Rings {
        final Book book;
        final int[] onAndOn = new int[MOST_LETTERS];

        Rings(Book book) {
            this.book = book;
        }

        private void follow() {
            for (int i = 0; i < book.letterCount; i++) {
                onAndOn[i] = book.letters[i].asked;
            }
            for (int over = 0; over < book.letterCount; over++) {
                for (int i = 0; i < book.letterCount; i++) {
                    if (has(onAndOn[i], over)) {
                        onAndOn[i] |= onAndOn[over];
                    }
                }
            }
        }

        /* Those that ask for a letter and are asked for by it. */
        private int mutual(int letter) {
            int bits = 0;
            for (int i = 0; i < book.letterCount; i++) {
                if (has(onAndOn[letter], i) && has(onAndOn[i], letter)) {
                    bits |= 1 << i;
                }
            }
            return bits;
        }

        int ringOf(int letter) {
            follow();
            return mutual(letter);
        }

        int howMany() {
            follow();
            int many = 0;
            for (int i = 0; i < book.letterCount; i++) {
                int bits = mutual(i);
                if (bits != 0 && Integer.numberOfTrailingZeros(bits) == i) {
                    many++;
                }
            }
            return many;
        }

        int fewestToBurn() {
            int all = (1 << book.letterCount) - 1;
            int best = all;
            for (int burnt = 0; burnt < all; burnt++) {
                if (Integer.bitCount(burnt) < Integer.bitCount(best) && !leavesRings(all & ~burnt)) {
                    best = burnt;
                }
            }
            return best;
        }

        /* A letter that asks for none of the rest is in no ring; what such ones never make empty has one. */
        private boolean leavesRings(int kept) {
            int rest = kept;
            for (int round = 0; round < MOST_LETTERS; round++) {
                for (int i = 0; i < book.letterCount; i++) {
                    if (has(rest, i) && (book.letters[i].asked & rest) == 0) {
                        rest &= ~(1 << i);
                    }
                }
            }
            return rest != 0;
        }
    }
}
