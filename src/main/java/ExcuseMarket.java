/** A market of excuses, one text of them at a time; ../shared/DOC.md says what each call does and answers. */
public final class ExcuseMarket {
    public static final int NONE = -1;

    /** The answer where there is such a thing to ask for, but nothing to tell of it. */
    private static final int NOTHING = -2;

    private static final int MOST_BYTES = 2000;
    private static final int MOST_TOKENS = 400;
    private static final int MOST_IFS = 4;
    private static final int MOST_DEEP = 6;
    private static final int MOST_MEN = 5;
    private static final int MOST_EXCUSES = 7;
    private static final int MOST_DUTIES = 9;
    private static final int MOST_KNOWS = 8;
    private static final int MOST_TESTS = 6;
    private static final int MOST_NAMES = MOST_MEN + MOST_EXCUSES + MOST_DUTIES + MOST_TESTS;
    private static final int MOST_TRUST = 99;
    private static final int MOST_PASSES = 100;
    private static final int MOST_WEARS = 99;
    private static final int LAST_DAY = 99;
    private static final int NEVER = 99;
    private static final int MOST_UNDONE = 40;
    private static final int MOST_SLOTS = 3;
    private static final int MOST_TOLD_OF = 20;
    private static final int MOST_AGE = 120;
    private static final int YEAR_OF_DAYS = 365;

    private static final int SYNTAX = 1;
    private static final int ROOM = 2;
    private static final int TWICE = 3;
    private static final int NO_SUCH = 4;
    private static final int WRONG = 5;

    // Kinds of TOKENS: signs are their own bytes, words stand from FIRST_WORD on in the order of WORDS.
    private static final int END = 0;
    private static final int BAD = 1;
    private static final int NAME = 2;
    private static final int INT = 3;
    private static final int OPEN = '(';
    private static final int CLOSE = ')';
    private static final int TIMES = '*';
    private static final int PLUS = '+';
    private static final int MINUS = '-';
    private static final int BY = '/';
    private static final int STOP = ';';
    private static final int LESS = '<';
    private static final int EQUAL = '=';
    private static final String WORDS =
        "man excuse duty knows test passes wears rain coins seed once if then else day strong wear trust kind ago wet hours heard ";
    private static final int WORD_COUNT = 23;
    private static final int FIRST_WORD = 64;
    private static final int MAN = 64;
    private static final int EXCUSE = 65;
    private static final int DUTY = 66;
    private static final int KNOWS = 67;
    private static final int TEST = 68;
    private static final int PASSES = 69;
    private static final int WEARS = 70;
    private static final int RAIN = 71;
    private static final int COINS = 72;
    private static final int SEED = 73;
    private static final int ONCE_WORD = 74;
    private static final int IF = 75;
    private static final int THEN = 76;
    private static final int ELSE = 77;
    private static final int FIRST_VARIABLE = 78;
    private static final int VARIABLES = 9;

    // Columns of a text's rows.
    private static final int TRUST = 0;
    private static final int MENDS = 1;
    private static final int FRIENDS = 2;
    private static final int PRICE = 0;
    private static final int GOOD = 1;
    private static final int KIND = 2;
    private static final int STRONG = 3;
    private static final int ONCE = 4;
    private static final int OWED_TO = 0;
    private static final int DAY = 1;
    private static final int HOURS = 2;

    private final byte[] tape = new byte[MOST_BYTES];
    private int tapeLength = 0;
    private int faultPlace = NONE;
    private final Parser parser = new Parser();
    private Text text = new Text();
    private final State now = new State();
    private final State ahead = new State();
    private final Past past = new Past();
    private final State[] slots = new State[MOST_SLOTS];
    private final boolean[] held = new boolean[MOST_SLOTS];
    private final Course course = new Course();
    private final Shopping shopping = new Shopping();
    private final Market market = new Market();
    private final Aunts aunts = new Aunts();
    private final Records records = new Records();

    public ExcuseMarket() {
        for (int slot = 0; slot < MOST_SLOTS; slot++) {
            slots[slot] = new State();
        }
        now.begin(text);
    }

    public int feed(int a, int b, int c, int d, int e) {
        if (tapeLength > MOST_BYTES - 20) {
            return NONE;
        }
        writeWord(a);
        writeWord(b);
        writeWord(c);
        writeWord(d);
        writeWord(e);
        return tapeLength;
    }

    private void writeWord(int word) {
        for (int shift = 24; shift >= 0 && tapeLength < MOST_BYTES; shift -= 8) {
            tape[tapeLength] = (byte) (word >>> shift);
            tapeLength++;
        }
    }

    public int back(int n) {
        if (n < 0 || n > tapeLength) {
            return NONE;
        }
        tapeLength -= n;
        return tapeLength;
    }

    public int read() {
        int fault = parser.parse(tape, tapeLength);
        faultPlace = parser.placeOfFault();
        tapeLength = 0;
        if (fault == 0) {
            beginAnew();
        }
        return fault;
    }

    /** The text ahead is given to the parser, which tells the next one into it. */
    private void beginAnew() {
        Text before = text;
        text = parser.text;
        parser.text = before;
        now.begin(text);
        past.clear();
        aunts.clear();
        records.clear();
        for (int slot = 0; slot < MOST_SLOTS; slot++) {
            held[slot] = false;
        }
    }

    public int place() {
        return faultPlace;
    }

    public int man(int man, int what) {
        if (!text.isMan(man)) {
            return NONE;
        }
        switch (what) {
            case 0: return now.trustOf[man];
            case 1: return text.manRows[man][MENDS];
            case 2: return text.manRows[man][FRIENDS];
            case 3: return now.tales(text, now.freed | now.caught, NONE, man);
            case 4: return now.tales(text, now.caught, NONE, man);
            default: return NONE;
        }
    }

    public int excuse(int excuse, int what) {
        if (!text.isExcuse(excuse)) {
            return NONE;
        }
        switch (what) {
            case 0: return text.excuseRows[excuse][PRICE];
            case 1: return text.excuseRows[excuse][GOOD];
            case 2: return text.excuseRows[excuse][KIND];
            case 3: return text.excuseRows[excuse][STRONG];
            case 4: return now.owns(excuse) ? 1 : 0;
            case 5: return now.tales(text, now.freed | now.caught, excuse, NONE);
            case 6: return now.plannedFor(text, excuse);
            default: return NONE;
        }
    }

    public int duty(int duty, int what) {
        if (!text.isDuty(duty)) {
            return NONE;
        }
        switch (what) {
            case 0: return text.dutyRows[duty][OWED_TO];
            case 1: return text.dutyRows[duty][DAY];
            case 2: return text.dutyRows[duty][HOURS];
            case 3: return now.plans[duty];
            case 4: return now.outcome(duty);
            default: return NONE;
        }
    }

    public int told(int excuse, int man, boolean last) {
        if (!text.isExcuse(excuse) || !text.isMan(man)) {
            return NONE;
        }
        return last ? now.lastTold(text, excuse, man) : now.tales(text, now.freed | now.caught, excuse, man);
    }

    public int rains(int day) {
        if (day < 0 || day > 999) {
            return NONE;
        }
        return course.isWet(text, text.seed, day) ? 1 : 0;
    }

    public int buy(int excuse) {
        if (!text.isExcuse(excuse)) {
            return NONE;
        }
        int price = text.excuseRows[excuse][PRICE];
        if (now.owns(excuse) || now.coins < price) {
            return NOTHING;
        }
        past.keep(now);
        now.coins -= price;
        now.owned |= 1 << excuse;
        return now.coins;
    }

    public int sell(int excuse) {
        if (!text.isExcuse(excuse)) {
            return NONE;
        }
        if (!now.owns(excuse)) {
            return NOTHING;
        }
        past.keep(now);
        now.coins += text.excuseRows[excuse][PRICE] / 2;
        now.owned &= ~(1 << excuse);
        return now.coins;
    }

    public boolean plan(int duty, int excuse) {
        if (!text.isDuty(duty) || now.isOver(duty)) {
            return false;
        }
        boolean takenBack = excuse == NONE;
        if (!takenBack && !(text.isExcuse(excuse) && now.owns(excuse))) {
            return false;
        }
        int wanted = takenBack ? NOTHING : excuse;
        if (now.plans[duty] == wanted) {
            return false;
        }
        past.keep(now);
        now.plans[duty] = wanted;
        return true;
    }

    public int days(int n) {
        if (n < 0 || n > 60) {
            return NONE;
        }
        if (n > 0) {
            past.keep(now);
            course.goBy(text, now, n, text.seed);
        }
        return now.today;
    }

    public boolean undo() {
        return past.takeBack(now);
    }

    public int pass(int excuse, int duty) {
        if (!text.isExcuse(excuse) || !text.isDuty(duty)) {
            return NONE;
        }
        int[] row = text.dutyRows[duty];
        return course.passes(text, now, excuse, row[OWED_TO], row[HOURS], text.seed);
    }

    public int planned(int n, int what) {
        if (!isAhead(n) || what < 0 || what > 3) {
            return NONE;
        }
        ahead.copy(now);
        course.goBy(text, ahead, n, text.seed);
        switch (what) {
            case 0: return Integer.bitCount(ahead.freed & ~now.freed);
            case 1: return Integer.bitCount(ahead.caught & ~now.caught);
            case 2: return Integer.bitCount(ahead.done & ~now.done);
            default: return ahead.hours - now.hours;
        }
    }

    private static boolean isAhead(int n) {
        return n >= 0 && n <= 30;
    }

    public int trust(int man, int n) {
        if (!text.isMan(man) || !isAhead(n)) {
            return NONE;
        }
        ahead.copy(now);
        course.goBy(text, ahead, n, text.seed);
        return ahead.trustOf[man];
    }

    public int year(int n, int s) {
        if (!isAhead(n) || s < 1 || s > 20) {
            return NONE;
        }
        int sum = 0;
        for (int seed = 0; seed < s; seed++) {
            ahead.copy(now);
            course.goBy(text, ahead, n, text.seed + seed);
            sum += Integer.bitCount(ahead.freed & ~now.freed);
        }
        return sum;
    }

    public int cheapest(int set, int p) {
        if (!isShopping(set, p)) {
            return NONE;
        }
        return shopping.find(course, text, now, set, p) ? shopping.leastCoins : NOTHING;
    }

    public int cheapestAt(int set, int p, int i) {
        if (!isShopping(set, p) || i < 0 || i >= Integer.bitCount(set)) {
            return NONE;
        }
        return shopping.find(course, text, now, set, p) ? shopping.bestAt(i) : NOTHING;
    }

    private boolean isShopping(int set, int p) {
        return set > 0 && set < 1 << text.duties && Integer.bitCount(set) <= 3 && isPercent(p);
    }

    private static boolean isPercent(int p) {
        return p >= 0 && p <= 100;
    }

    public int two(int i) {
        return i < NONE ? NONE : now.pairs(text, i);
    }

    public int rumour(int man, int n) {
        if (!text.isMan(man) || n < NONE || n > 9) {
            return NONE;
        }
        return text.rumourFrom(man, n);
    }

    public int apart(int what) {
        if (what < 0 || what > 1) {
            return NONE;
        }
        int tests = text.fewestTests();
        return what == 1 || tests == NOTHING ? tests : Integer.bitCount(tests);
    }

    public int sellers(int n, int m, int c, int b, int i) {
        if (n < 2 || n > 3 || m < 0 || m > 6 || c < 0 || c > 9 || b < 0 || b > 99 || i < NONE) {
            return NONE;
        }
        return market.rests(n, m, c, b, i);
    }

    public int calm(int excuse, int man, int p) {
        if (!text.isExcuse(excuse) || !text.isMan(man) || !isPercent(p)) {
            return NONE;
        }
        ahead.copy(now);
        for (int day = now.today; day <= LAST_DAY; day++) {
            if (course.passes(text, ahead, excuse, man, 1, text.seed) >= p) {
                return day;
            }
            course.mend(text, ahead, 1);
        }
        return NOTHING;
    }

    public int say(int kind, int least, int most, int day) {
        if (!isKind(kind) || least < 0 || most > MOST_AGE || least > most || day < 0 || day > 9999) {
            return NONE;
        }
        return aunts.add(kind, least, most, day);
    }

    private static boolean isKind(int kind) {
        return kind >= 0 && kind <= 9;
    }

    public int span(int kind, int k, int what) {
        if (!isKind(kind) || k < 0 || k > aunts.count || what < 0 || what > 1) {
            return NONE;
        }
        int least = aunts.leastAge(kind, k);
        int most = aunts.greatestAge(kind, k);
        if (least > most) {
            return NOTHING;
        }
        return what == 0 ? least : most;
    }

    public int know(int excuse, int man, int often) {
        if (!text.isExcuse(excuse) || !text.isMan(man) || often < 0 || often > 9) {
            return NONE;
        }
        return records.add(excuse, man, often);
    }

    public int fits(int man, int k) {
        if (!text.isMan(man) || k < 0 || k > records.count) {
            return NONE;
        }
        return records.ways(text, man, k);
    }

    public int forget() {
        int both = aunts.count + records.count;
        aunts.clear();
        records.clear();
        return both;
    }

    public boolean hold(int slot) {
        State kept = slotAt(slot);
        if (kept == null) {
            return false;
        }
        kept.copy(now);
        held[slot] = true;
        return true;
    }

    public boolean restore(int slot) {
        State kept = slotAt(slot);
        if (kept == null || !held[slot]) {
            return false;
        }
        now.copy(kept);
        past.clear();
        return true;
    }

    private State slotAt(int slot) {
        return slot >= 0 && slot < MOST_SLOTS ? slots[slot] : null;
    }

    public int count(int what) {
        switch (what) {
            case 0: return text.men;
            case 1: return text.excuses;
            case 2: return text.duties;
            case 3: return text.tests;
            case 4: return now.today;
            case 5: return now.coins;
            case 6: return now.hours;
            case 7: return now.owned;
            case 8: return now.freed;
            case 9: return now.caught;
            case 10: return now.done;
            case 11: return tapeLength;
            case 12: return past.count;
            case 13: return aunts.count;
            case 14: return records.count;
            case 15: return slotsHeld();
            default: return NONE;
        }
    }

    private int slotsHeld() {
        int sum = 0;
        for (int slot = 0; slot < MOST_SLOTS; slot++) {
            sum += held[slot] ? 1 : 0;
        }
        return sum;
    }

    /** A tape's TOKENS; what comes behind END, BAD or the 401st of them is never looked at. */
    private static final class Tokens {
        final int[] kinds = new int[MOST_TOKENS + 1];
        final int[] starts = new int[MOST_TOKENS + 1];
        /** An INT's number; a NAME's letters, five bits each. */
        final long[] values = new long[MOST_TOKENS + 1];
        private final long[] words = new long[WORD_COUNT];

        Tokens() {
            int word = 0;
            long letters = 0;
            for (int i = 0; i < WORDS.length() && word < WORD_COUNT; i++) {
                char sign = WORDS.charAt(i);
                if (sign == ' ') {
                    words[word] = letters;
                    word++;
                    letters = 0;
                } else {
                    letters = letters * 32 + (sign - 'a' + 1);
                }
            }
        }

        void cut(byte[] tape, int length) {
            int at = 0;
            boolean goesOn = true;
            for (int token = 0; token <= MOST_TOKENS && goesOn; token++) {
                at = behindBlanks(tape, length, at);
                int end = endOfRun(tape, length, at);
                put(token, tape, at, end);
                goesOn = kinds[token] != END && kinds[token] != BAD;
                at = end;
            }
        }

        private static int behindBlanks(byte[] tape, int length, int from) {
            int at = from;
            while (at < length && (tape[at] == ' ' || tape[at] == 9 || tape[at] == 10 || tape[at] == 13)) {
                at++;
            }
            return at;
        }

        /** Letters and digits run on as far as they go, for a run that is too long is no TOKEN as a whole. */
        private static int endOfRun(byte[] tape, int length, int start) {
            int at = start;
            if (at < length && isLetter(tape[at])) {
                while (at < length && isLetter(tape[at])) {
                    at++;
                }
            } else if (at < length && isDigit(tape[at])) {
                while (at < length && isDigit(tape[at])) {
                    at++;
                }
            } else if (at < length) {
                at++;
            }
            return at;
        }

        private static boolean isLetter(int sign) {
            return sign >= 'a' && sign <= 'z';
        }

        private static boolean isDigit(int sign) {
            return sign >= '0' && sign <= '9';
        }

        private void put(int token, byte[] tape, int start, int end) {
            starts[token] = start;
            values[token] = 0;
            kinds[token] = END;
            if (start >= end) {
                return;
            }
            int sign = tape[start];
            if (isLetter(sign)) {
                kinds[token] = BAD;
                if (end - start <= 8) {
                    values[token] = joined(tape, start, end, 32, 'a' - 1);
                    kinds[token] = kindOf(values[token]);
                }
            } else if (isDigit(sign)) {
                kinds[token] = BAD;
                if (end - start <= 4) {
                    values[token] = joined(tape, start, end, 10, '0');
                    kinds[token] = INT;
                }
            } else {
                kinds[token] = isSign(sign) ? sign : BAD;
            }
        }

        private static long joined(byte[] tape, int start, int end, int base, int zero) {
            long sum = 0;
            for (int i = start; i < end; i++) {
                sum = sum * base + (tape[i] - zero);
            }
            return sum;
        }

        private static boolean isSign(int sign) {
            switch (sign) {
                case OPEN: case CLOSE: case TIMES: case PLUS: case MINUS: case BY: case STOP: case LESS: case EQUAL:
                    return true;
                default:
                    return false;
            }
        }

        private int kindOf(long letters) {
            for (int word = 0; word < WORD_COUNT; word++) {
                if (words[word] == letters) {
                    return FIRST_WORD + word;
                }
            }
            return NAME;
        }
    }

    /** Reads TOKENS into a text. The first fault of each of the document's two rounds is kept; the first round's goes ahead. */
    private static final class Parser {
        private final Tokens tokens = new Tokens();
        Text text = new Text();
        private int at = 0;
        private int broken = 0;
        private int brokenPlace = NONE;
        private int unsound = 0;
        private int unsoundPlace = NONE;

        int parse(byte[] tape, int length) {
            tokens.cut(tape, length);
            text.clear();
            at = 0;
            broken = 0;
            brokenPlace = NONE;
            unsound = 0;
            unsoundPlace = NONE;
            for (int n = 0; n <= MOST_TOKENS && broken == 0 && kind() != END; n++) {
                switch (kind()) {
                    case MAN: tellMan(); break;
                    case EXCUSE: tellExcuse(); break;
                    case DUTY: tellDuty(); break;
                    case KNOWS: tellKnows(); break;
                    case TEST: tellTest(); break;
                    case PASSES: tellLaw(PASSES, text.passes); break;
                    case WEARS: tellLaw(WEARS, text.wears); break;
                    case RAIN: text.rain = setting(RAIN, 100); break;
                    case COINS: text.coins = setting(COINS, 999); break;
                    case SEED: text.seed = setting(SEED, 9999); break;
                    default: breakOff(SYNTAX); break;
                }
                accept(STOP);
            }
            return broken != 0 ? broken : unsound;
        }

        int placeOfFault() {
            return broken != 0 ? brokenPlace : unsoundPlace;
        }

        private void tellMan() {
            open(MAN, text.men, MOST_MEN);
            newName(MAN, text.men);
            int trust = number(0, MOST_TRUST);
            int mends = number(0, 9);
            if (broken == 0) {
                text.addMan(trust, mends);
            }
        }

        private void tellExcuse() {
            open(EXCUSE, text.excuses, MOST_EXCUSES);
            newName(EXCUSE, text.excuses);
            int price = number(0, 99);
            int good = number(0, LAST_DAY);
            int kind = number(0, 9);
            int strong = number(0, 99);
            boolean once = kind() == ONCE_WORD;
            if (once) {
                accept(ONCE_WORD);
            }
            if (broken == 0) {
                text.addExcuse(price, good, kind, strong, once ? 1 : 0);
            }
        }

        private void tellDuty() {
            open(DUTY, text.duties, MOST_DUTIES);
            newName(DUTY, text.duties);
            int man = toldName(MAN);
            int day = number(0, LAST_DAY);
            int hours = number(1, 9);
            if (broken == 0) {
                text.addDuty(man, day, hours);
            }
        }

        private void tellKnows() {
            open(KNOWS, text.knows, MOST_KNOWS);
            int one = toldName(MAN);
            int place = placeHere();
            int other = toldName(MAN);
            if (broken == 0) {
                if (one == other && one != NONE) {
                    complain(TWICE, place);
                }
                text.addKnows(one, other);
            }
        }

        private void tellTest() {
            open(TEST, text.tests, MOST_TESTS);
            newName(TEST, text.tests);
            int rings = 0;
            for (int n = 0; n <= MOST_TOKENS && kind() == NAME; n++) {
                int place = placeHere();
                int excuse = toldName(EXCUSE);
                if (excuse != NONE && (rings >> excuse & 1) != 0) {
                    complain(TWICE, place);
                }
                rings |= excuse != NONE ? 1 << excuse : 0;
            }
            if (broken == 0) {
                text.addTest(rings);
            }
        }

        private int setting(int word, int most) {
            accept(word);
            return number(0, most);
        }

        private void tellLaw(int word, Law law) {
            law.clear();
            accept(word);
            accept(EQUAL);
            for (int ifs = 0; ifs <= MOST_IFS && kind() == IF; ifs++) {
                open(IF, ifs, MOST_IFS);
                sum(law, 0);
                accept(LESS);
                sum(law, 0);
                accept(THEN);
                int hole = law.addUnlessLess();
                sum(law, 0);
                law.add(Law.ANSWER);
                accept(ELSE);
                law.landHere(hole);
            }
            sum(law, 0);
            law.add(Law.ANSWER);
        }

        private void sum(Law law, int depth) {
            product(law, depth);
            for (int n = 0; n <= MOST_TOKENS && (kind() == PLUS || kind() == MINUS); n++) {
                int sign = kind();
                accept(sign);
                product(law, depth);
                law.add(-sign);
            }
        }

        private void product(Law law, int depth) {
            unit(law, depth);
            for (int n = 0; n <= MOST_TOKENS && (kind() == TIMES || kind() == BY); n++) {
                int sign = kind();
                accept(sign);
                unit(law, depth);
                law.add(-sign);
            }
        }

        private void unit(Law law, int depth) {
            int kind = kind();
            if (kind == OPEN && depth >= MOST_DEEP) {
                breakOff(ROOM);
            } else if (kind == OPEN) {
                accept(OPEN);
                sum(law, depth + 1);
                accept(CLOSE);
            } else if (kind >= FIRST_VARIABLE) {
                law.add(Law.VARIABLE + kind - FIRST_VARIABLE);
                accept(kind);
            } else {
                law.add((int) tokens.values[at]);
                accept(INT);
            }
        }

        /** The kind of the TOKEN at hand; one that nothing goes on with, once the text is broken. */
        private int kind() {
            return broken != 0 ? BAD : tokens.kinds[at];
        }

        private int placeHere() {
            return tokens.starts[at];
        }

        /** Never goes beyond the 401st TOKEN: so what is at hand always stands in the rows. */
        private void accept(int kind) {
            if (broken != 0) {
                return;
            }
            if (tokens.kinds[at] == kind && at < MOST_TOKENS) {
                at++;
                return;
            }
            broken = tokens.kinds[at] == kind ? ROOM : SYNTAX;
            brokenPlace = tokens.starts[at];
        }

        private void breakOff(int fault) {
            if (broken == 0) {
                broken = fault;
                brokenPlace = tokens.starts[at];
            }
        }

        private void complain(int fault, int place) {
            if (unsound == 0) {
                unsound = fault;
                unsoundPlace = place;
            }
        }

        private void open(int word, int count, int most) {
            if (count >= most) {
                breakOff(ROOM);
            }
            accept(word);
        }

        private void newName(int sort, int number) {
            int place = placeHere();
            long letters = tokens.values[at];
            accept(NAME);
            if (broken != 0) {
                return;
            }
            if (text.findName(letters) != NONE) {
                complain(TWICE, place);
            }
            text.addName(letters, sort, number);
        }

        private int toldName(int sort) {
            int place = placeHere();
            long letters = tokens.values[at];
            accept(NAME);
            if (broken != 0) {
                return NONE;
            }
            int found = text.numberOf(text.findName(letters), sort);
            if (found == NONE) {
                complain(NO_SUCH, place);
            }
            return found;
        }

        private int number(int least, int most) {
            int place = placeHere();
            int value = (int) tokens.values[at];
            accept(INT);
            if (broken == 0 && (value < least || value > most)) {
                complain(WRONG, place);
            }
            return value;
        }
    }

    /** A LAW as steps over a stack. */
    private static final class Law {
        static final int VARIABLE = 10000;
        static final int ANSWER = -1;
        static final int UNLESS_LESS = -2;

        private final int[] steps = new int[MOST_TOKENS + 8];
        private int length = 0;
        /** At most two ints wait at each depth, and one for its other side. */
        private final int[] stack = new int[2 * MOST_DEEP + 8];

        void clear() {
            length = 0;
        }

        void always(int value) {
            length = 0;
            add(value);
            add(ANSWER);
        }

        void add(int step) {
            if (length < steps.length) {
                steps[length] = step;
                length++;
            }
        }

        /** The place of the next if's start is not known yet: its hole is answered. */
        int addUnlessLess() {
            add(UNLESS_LESS);
            add(0);
            return length - 1;
        }

        void landHere(int hole) {
            if (hole >= 0 && hole < length) {
                steps[hole] = length;
            }
        }

        int answer(int[] seen) {
            int height = 0;
            int at = 0;
            for (int n = 0; n < length && at < length; n++) {
                int step = steps[at];
                at++;
                if (step >= 0) {
                    if (height >= stack.length) {
                        return 0;
                    }
                    stack[height] = step < VARIABLE ? step : valueOf(seen, step - VARIABLE);
                    height++;
                } else if (step == ANSWER) {
                    return height > 0 ? stack[height - 1] : 0;
                } else {
                    if (height < 2) {
                        return 0;
                    }
                    int left = stack[height - 2];
                    int right = stack[height - 1];
                    if (step == UNLESS_LESS) {
                        height -= 2;
                        at = left < right ? at + 1 : Math.max(at, landing(at));
                    } else if (step == -BY && right == 0) {
                        return 0;
                    } else {
                        height--;
                        stack[height - 1] = joined(step, left, right);
                    }
                }
            }
            return 0;
        }

        private int landing(int hole) {
            return hole < length ? steps[hole] : length;
        }

        private static int valueOf(int[] seen, int variable) {
            return variable < seen.length ? seen[variable] : 0;
        }

        private static int joined(int step, int left, int right) {
            switch (step) {
                case -PLUS: return left + right;
                case -MINUS: return left - right;
                case -TIMES: return left * right;
                default: return right == 0 ? 0 : left / right;
            }
        }
    }

    /** What a text tells. */
    private static final class Text {
        int men = 0;
        int excuses = 0;
        int duties = 0;
        int tests = 0;
        int knows = 0;
        int rain = 0;
        int coins = 50;
        int seed = 0;
        final Law passes = new Law();
        final Law wears = new Law();
        final int[][] manRows = new int[MOST_MEN][FRIENDS + 1];
        final int[][] excuseRows = new int[MOST_EXCUSES][ONCE + 1];
        final int[][] dutyRows = new int[MOST_DUTIES][HOURS + 1];
        final int[] rings = new int[MOST_TESTS];
        private final long[] names = new long[MOST_NAMES];
        private final int[] nameSorts = new int[MOST_NAMES];
        private final int[] nameNumbers = new int[MOST_NAMES];
        private int nameCount = 0;

        Text() {
            clear();
        }

        void clear() {
            men = 0;
            excuses = 0;
            duties = 0;
            tests = 0;
            knows = 0;
            rain = 0;
            coins = 50;
            seed = 0;
            passes.always(50);
            wears.always(10);
            nameCount = 0;
        }

        boolean isMan(int man) {
            return man >= 0 && man < men;
        }

        boolean isExcuse(int excuse) {
            return excuse >= 0 && excuse < excuses;
        }

        boolean isDuty(int duty) {
            return duty >= 0 && duty < duties;
        }

        void addName(long letters, int sort, int number) {
            if (nameCount < MOST_NAMES) {
                names[nameCount] = letters;
                nameSorts[nameCount] = sort;
                nameNumbers[nameCount] = number;
                nameCount++;
            }
        }

        int findName(long letters) {
            for (int name = 0; name < nameCount; name++) {
                if (names[name] == letters) {
                    return name;
                }
            }
            return NONE;
        }

        int numberOf(int name, int sort) {
            return name >= 0 && name < nameCount && nameSorts[name] == sort ? nameNumbers[name] : NONE;
        }

        void addMan(int trust, int mends) {
            if (men < MOST_MEN) {
                manRows[men][TRUST] = trust;
                manRows[men][MENDS] = mends;
                manRows[men][FRIENDS] = 0;
                men++;
            }
        }

        void addExcuse(int price, int good, int kind, int strong, int once) {
            if (excuses < MOST_EXCUSES) {
                int[] row = excuseRows[excuses];
                row[PRICE] = price;
                row[GOOD] = good;
                row[KIND] = kind;
                row[STRONG] = strong;
                row[ONCE] = once;
                excuses++;
            }
        }

        void addDuty(int man, int day, int hours) {
            if (duties < MOST_DUTIES) {
                dutyRows[duties][OWED_TO] = man;
                dutyRows[duties][DAY] = day;
                dutyRows[duties][HOURS] = hours;
                duties++;
            }
        }

        void addKnows(int one, int other) {
            if (isMan(one) && isMan(other)) {
                manRows[one][FRIENDS] |= 1 << other;
                manRows[other][FRIENDS] |= 1 << one;
            }
            knows++;
        }

        void addTest(int excusesThatRing) {
            if (tests < MOST_TESTS) {
                rings[tests] = excusesThatRing;
                tests++;
            }
        }

        boolean knowEachOther(int one, int other) {
            return isMan(one) && isMan(other) && (manRows[one][FRIENDS] >> other & 1) != 0;
        }

        int rumourFrom(int man, int n) {
            int heard = 1 << man;
            int rounds = 0;
            int most = n == NONE ? MOST_MEN : n;
            for (int round = 0; round < most; round++) {
                int next = heard | friendsOf(heard);
                rounds += next != heard ? 1 : 0;
                heard = next;
            }
            return n == NONE ? rounds : heard;
        }

        private int friendsOf(int some) {
            int bits = 0;
            for (int man = 0; man < men; man++) {
                bits |= (some >> man & 1) != 0 ? manRows[man][FRIENDS] : 0;
            }
            return bits;
        }

        /** Sets go upwards, so that of alike ones the least bits stay. */
        int fewestTests() {
            int best = NOTHING;
            for (int set = 0; set < 1 << tests; set++) {
                boolean fewer = best == NOTHING || Integer.bitCount(set) < Integer.bitCount(best);
                if (fewer && tellsAllApart(set)) {
                    best = set;
                }
            }
            return best;
        }

        private boolean tellsAllApart(int set) {
            for (int one = 0; one < excuses; one++) {
                for (int other = one + 1; other < excuses; other++) {
                    if (!tellsApart(set, one, other)) {
                        return false;
                    }
                }
            }
            return true;
        }

        private boolean tellsApart(int set, int one, int other) {
            for (int test = 0; test < tests; test++) {
                if ((set >> test & 1) != 0 && ((rings[test] >> one ^ rings[test] >> other) & 1) != 0) {
                    return true;
                }
            }
            return false;
        }
    }

    /**
     * All that goes on. An EXCUSE was told for just those DUTIES that are FREE or CAUGHT, by a plan that nobody
     * can change any more: so who was told what, and when, is looked up there and kept nowhere else.
     */
    private static final class State {
        int today = 0;
        int coins = 0;
        int hours = 0;
        int owned = 0;
        int freed = 0;
        int caught = 0;
        int done = 0;
        final int[] trustOf = new int[MOST_MEN];
        final int[] plans = new int[MOST_DUTIES];

        void begin(Text text) {
            today = 0;
            coins = text.coins;
            hours = 0;
            owned = 0;
            freed = 0;
            caught = 0;
            done = 0;
            for (int man = 0; man < MOST_MEN; man++) {
                trustOf[man] = text.isMan(man) ? text.manRows[man][TRUST] : 0;
            }
            for (int duty = 0; duty < MOST_DUTIES; duty++) {
                plans[duty] = NOTHING;
            }
        }

        void copy(State other) {
            today = other.today;
            coins = other.coins;
            hours = other.hours;
            owned = other.owned;
            freed = other.freed;
            caught = other.caught;
            done = other.done;
            for (int man = 0; man < MOST_MEN; man++) {
                trustOf[man] = other.trustOf[man];
            }
            for (int duty = 0; duty < MOST_DUTIES; duty++) {
                plans[duty] = other.plans[duty];
            }
        }

        boolean owns(int excuse) {
            return (owned >> excuse & 1) != 0;
        }

        int over() {
            return freed | caught | done;
        }

        boolean isOver(int duty) {
            return (over() >> duty & 1) != 0;
        }

        int outcome(int duty) {
            int bit = 1 << duty;
            return (freed & bit) != 0 ? 1 : (caught & bit) != 0 ? 2 : (done & bit) != 0 ? 3 : 0;
        }

        int plannedFor(Text text, int excuse) {
            int bits = 0;
            for (int duty = 0; duty < text.duties; duty++) {
                bits |= plans[duty] == excuse ? 1 << duty : 0;
            }
            return bits;
        }

        /** How many of some DUTIES were met with an EXCUSE (NONE: any) told to a MAN (NONE: any). */
        int tales(Text text, int some, int excuse, int man) {
            int sum = 0;
            for (int duty = 0; duty < text.duties; duty++) {
                boolean isOne = (some >> duty & 1) != 0;
                boolean isIt = excuse == NONE || plans[duty] == excuse;
                boolean isHis = man == NONE || text.dutyRows[duty][OWED_TO] == man;
                sum += isOne && isIt && isHis ? 1 : 0;
            }
            return sum;
        }

        int lastTold(Text text, int excuse, int man) {
            int last = NOTHING;
            int some = freed | caught;
            for (int duty = 0; duty < text.duties; duty++) {
                if ((some >> duty & 1) != 0 && plans[duty] == excuse && text.dutyRows[duty][OWED_TO] == man) {
                    last = Math.max(last, text.dutyRows[duty][DAY]);
                }
            }
            return last;
        }

        /** The KIND that was told for a DUTY; NONE if nothing was. */
        private int kindTold(Text text, int duty) {
            int excuse = plans[duty];
            boolean told = ((freed | caught) >> duty & 1) != 0 && excuse >= 0 && excuse < text.excuses;
            return told ? text.excuseRows[excuse][KIND] : NONE;
        }

        private static boolean differ(int kind, int other) {
            return kind != NONE && other != NONE && kind != other;
        }

        /** How many MEN who KNOW him were told another KIND today. */
        int toldOtherwise(Text text, int man, int kind) {
            int some = 0;
            for (int duty = 0; duty < text.duties; duty++) {
                int toldKind = kindTold(text, duty);
                if (text.dutyRows[duty][DAY] == today && differ(toldKind, kind)) {
                    some |= 1 << text.dutyRows[duty][OWED_TO];
                }
            }
            return text.isMan(man) ? Integer.bitCount(some & text.manRows[man][FRIENDS]) : 0;
        }

        /** How many pairs were told TWO THINGS (i NONE), or the i-th of them. */
        int pairs(Text text, int i) {
            int found = 0;
            for (int one = 0; one < text.men; one++) {
                for (int other = one + 1; other < text.men; other++) {
                    if (text.knowEachOther(one, other) && toldTwoThings(text, one, other)) {
                        if (found == i) {
                            return 10 * one + other;
                        }
                        found++;
                    }
                }
            }
            return i == NONE ? found : NONE;
        }

        private boolean toldTwoThings(Text text, int one, int other) {
            for (int duty = 0; duty < text.duties; duty++) {
                for (int next = 0; next < text.duties; next++) {
                    boolean theirs = text.dutyRows[duty][OWED_TO] == one && text.dutyRows[next][OWED_TO] == other;
                    boolean oneDay = text.dutyRows[duty][DAY] == text.dutyRows[next][DAY];
                    if (theirs && oneDay && differ(kindTold(text, duty), kindTold(text, next))) {
                        return true;
                    }
                }
            }
            return false;
        }
    }

    /** The last states that can be gone back to, in a ring. */
    private static final class Past {
        private final State[] ring = new State[MOST_UNDONE];
        private int next = 0;
        int count = 0;

        Past() {
            for (int i = 0; i < MOST_UNDONE; i++) {
                ring[i] = new State();
            }
        }

        void clear() {
            count = 0;
        }

        void keep(State state) {
            ring[next].copy(state);
            next = next + 1 < MOST_UNDONE ? next + 1 : 0;
            count = Math.min(count + 1, MOST_UNDONE);
        }

        boolean takeBack(State state) {
            if (count == 0) {
                return false;
            }
            next = next > 0 ? next - 1 : MOST_UNDONE - 1;
            count--;
            state.copy(ring[next]);
            return true;
        }
    }

    /** How days go by. The seed is told with each call, since a YEAR tries others than the text's. */
    private static final class Course {
        private final int[] seen = new int[VARIABLES];

        /** LOT 100: no other one is drawn. */
        private static int lot(int seed, int which) {
            int h = seed;
            for (int round = 0; round < 2; round++) {
                int it = round == 0 ? 61 : which;
                h = (h ^ it) * 1103515245 + 12345;
                h = h ^ (h >>> 15);
            }
            return (h >>> 1) % 100;
        }

        boolean isWet(Text text, int seed, int day) {
            return lot(seed, 16 * day) < text.rain;
        }

        /** In the order in which WORDS holds the variables. */
        private void look(Text text, State state, int excuse, int man, int hours, int seed) {
            int[] row = text.excuseRows[excuse];
            int last = state.lastTold(text, excuse, man);
            seen[0] = state.today;
            seen[1] = row[STRONG];
            seen[2] = state.tales(text, state.freed | state.caught, excuse, man);
            seen[3] = state.trustOf[man];
            seen[4] = row[KIND];
            seen[5] = last == NOTHING ? NEVER : state.today - last;
            seen[6] = lot(seed, 16 * state.today) < text.rain ? 1 : 0;
            seen[7] = hours;
            seen[8] = state.toldOtherwise(text, man, row[KIND]);
        }

        int passes(Text text, State state, int excuse, int man, int hours, int seed) {
            if (!text.isExcuse(excuse) || !text.isMan(man) || state.today > text.excuseRows[excuse][GOOD]) {
                return 0;
            }
            look(text, state, excuse, man, hours, seed);
            return Math.max(0, Math.min(MOST_PASSES, text.passes.answer(seen)));
        }

        int wears(Text text, State state, int excuse, int man, int hours, int seed) {
            if (!text.isExcuse(excuse) || !text.isMan(man)) {
                return 0;
            }
            look(text, state, excuse, man, hours, seed);
            return Math.max(0, Math.min(MOST_WEARS, text.wears.answer(seen)));
        }

        void goBy(Text text, State state, int n, int seed) {
            for (int i = 0; i < n; i++) {
                for (int duty = 0; duty < text.duties; duty++) {
                    if (text.dutyRows[duty][DAY] == state.today && !state.isOver(duty)) {
                        meet(text, state, duty, seed);
                    }
                }
                mend(text, state, 1);
            }
        }

        /** TRUST only grows between tellings, so many days mend at once. */
        void mend(Text text, State state, int n) {
            for (int man = 0; man < text.men; man++) {
                state.trustOf[man] = Math.min(MOST_TRUST, state.trustOf[man] + n * text.manRows[man][MENDS]);
            }
            state.today += n;
        }

        private void meet(Text text, State state, int duty, int seed) {
            int excuse = state.plans[duty];
            int man = text.dutyRows[duty][OWED_TO];
            int hours = text.dutyRows[duty][HOURS];
            if (!text.isExcuse(excuse) || !state.owns(excuse)) {
                state.done |= 1 << duty;
                state.hours += hours;
                return;
            }
            int wears = wears(text, state, excuse, man, hours, seed);
            if (lot(seed, 16 * state.today + 1 + duty) < passes(text, state, excuse, man, hours, seed)) {
                state.freed |= 1 << duty;
                lose(state, man, wears);
            } else {
                state.caught |= 1 << duty;
                state.hours += hours;
                lose(state, man, 2 * wears);
            }
            if (text.excuseRows[excuse][ONCE] != 0) {
                state.owned &= ~(1 << excuse);
            }
        }

        void lose(State state, int man, int much) {
            if (man >= 0 && man < MOST_MEN) {
                state.trustOf[man] = Math.max(0, state.trustOf[man] - much);
            }
        }
    }

    /** BUY: every row of EXCUSES for the set is tried on a state of its own. */
    private static final class Shopping {
        private static final int MOST = 3;

        private final State trial = new State();
        /** The set's DUTIES by numbers, and their indices there by days. */
        private final int[] wanted = new int[MOST];
        private final int[] order = new int[MOST];
        private final int[] chosen = new int[MOST];
        private final int[] best = new int[MOST];
        private int size = 0;
        int leastCoins = NOTHING;

        int bestAt(int i) {
            return i >= 0 && i < size ? best[i] : NOTHING;
        }

        boolean find(Course course, Text text, State state, int set, int p) {
            leastCoins = NOTHING;
            if ((set & state.over()) != 0) {
                return false;
            }
            list(text, set);
            int rows = 1;
            for (int i = 0; i < size; i++) {
                rows *= text.excuses;
            }
            // Rows go upwards by the first DUTY's EXCUSE, so of alike ones the first stays.
            for (int row = 0; row < rows; row++) {
                choose(text, row);
                int coins = coinsFor(text, state);
                boolean less = leastCoins == NOTHING || coins < leastCoins;
                if (less && !usesOnceAgain(text) && works(course, text, state, p)) {
                    leastCoins = coins;
                    keepChosen();
                }
            }
            return leastCoins != NOTHING;
        }

        private void list(Text text, int set) {
            size = 0;
            for (int duty = 0; duty < text.duties; duty++) {
                if ((set >> duty & 1) != 0 && size < MOST) {
                    wanted[size] = duty;
                    int at = size;
                    while (at > 0 && at < MOST && dayOf(text, order[at - 1]) > text.dutyRows[duty][DAY]) {
                        order[at] = order[at - 1];
                        at--;
                    }
                    order[at] = size;
                    size++;
                }
            }
        }

        private int dayOf(Text text, int index) {
            return text.dutyRows[wanted[index]][DAY];
        }

        private void choose(Text text, int row) {
            int rest = row;
            for (int i = size - 1; i >= 0; i--) {
                chosen[i] = text.excuses > 0 ? rest % text.excuses : 0;
                rest = text.excuses > 0 ? rest / text.excuses : 0;
            }
        }

        private void keepChosen() {
            for (int i = 0; i < size; i++) {
                best[i] = chosen[i];
            }
        }

        private int coinsFor(Text text, State state) {
            int coins = 0;
            int counted = state.owned;
            for (int i = 0; i < size; i++) {
                int excuse = chosen[i];
                coins += (counted >> excuse & 1) != 0 ? 0 : text.excuseRows[excuse][PRICE];
                counted |= 1 << excuse;
            }
            return coins;
        }

        private boolean usesOnceAgain(Text text) {
            int used = 0;
            for (int i = 0; i < size; i++) {
                int excuse = chosen[i];
                if ((used >> excuse & 1) != 0 && text.excuseRows[excuse][ONCE] != 0) {
                    return true;
                }
                used |= 1 << excuse;
            }
            return false;
        }

        private boolean works(Course course, Text text, State state, int p) {
            trial.copy(state);
            for (int i = 0; i < size; i++) {
                int excuse = chosen[order[i]];
                int duty = wanted[order[i]];
                int[] row = text.dutyRows[duty];
                course.mend(text, trial, row[DAY] - trial.today);
                if (course.passes(text, trial, excuse, row[OWED_TO], row[HOURS], text.seed) < p) {
                    return false;
                }
                course.lose(trial, row[OWED_TO],
                    course.wears(text, trial, excuse, row[OWED_TO], row[HOURS], text.seed));
                trial.plans[duty] = excuse;
                trial.freed |= 1 << duty;
            }
            return true;
        }
    }

    /** SELLERS and the rows of prices at which they rest. */
    private static final class Market {
        private final int[] prices = new int[3];

        int rests(int n, int m, int c, int b, int i) {
            int found = 0;
            int rows = n == 2 ? 49 : 343;
            for (int row = 0; row < rows; row++) {
                if (ask(n, m, row) && isRest(n, m, c, b)) {
                    if (found == i) {
                        return row;
                    }
                    found++;
                }
            }
            return i == NONE ? found : NONE;
        }

        /** Whether a row, 7 to the place, holds no price above m; its prices are then asked. */
        private boolean ask(int n, int m, int row) {
            int rest = row;
            boolean allowed = true;
            for (int seller = Math.min(n, prices.length) - 1; seller >= 0; seller--) {
                prices[seller] = rest % 7;
                rest /= 7;
                allowed = allowed && prices[seller] <= m;
            }
            return allowed;
        }

        private boolean isRest(int n, int m, int c, int b) {
            for (int seller = 0; seller < n && seller < prices.length; seller++) {
                int asked = prices[seller];
                int gained = gain(n, c, b, seller);
                boolean better = false;
                for (int price = 0; price <= m; price++) {
                    prices[seller] = price;
                    better = better || gain(n, c, b, seller) > gained;
                }
                prices[seller] = asked;
                if (better) {
                    return false;
                }
            }
            return true;
        }

        private int gain(int n, int c, int b, int seller) {
            int sharing = 0;
            for (int other = 0; other < n && other < prices.length; other++) {
                if (prices[other] < prices[seller]) {
                    return 0;
                }
                sharing += prices[other] == prices[seller] ? 1 : 0;
            }
            return sharing > 0 ? b / sharing * (prices[seller] - c) : 0;
        }
    }

    /** What is SAID. */
    private static final class Aunts {
        private final int[] kinds = new int[MOST_TOLD_OF];
        private final int[] leasts = new int[MOST_TOLD_OF];
        private final int[] mosts = new int[MOST_TOLD_OF];
        private final int[] yearsGone = new int[MOST_TOLD_OF];
        int count = 0;

        void clear() {
            count = 0;
        }

        int add(int kind, int least, int most, int day) {
            if (count >= MOST_TOLD_OF) {
                return NONE;
            }
            kinds[count] = kind;
            leasts[count] = least;
            mosts[count] = most;
            yearsGone[count] = day / YEAR_OF_DAYS;
            count++;
            return count - 1;
        }

        int leastAge(int kind, int k) {
            int least = 0;
            for (int i = 0; i < k && i < count; i++) {
                least = kinds[i] == kind ? Math.max(least, leasts[i] - yearsGone[i]) : least;
            }
            return least;
        }

        int greatestAge(int kind, int k) {
            int most = MOST_AGE;
            for (int i = 0; i < k && i < count; i++) {
                most = kinds[i] == kind ? Math.min(most, mosts[i] - yearsGone[i]) : most;
            }
            return most;
        }
    }

    /** What is KNOWN. */
    private static final class Records {
        private final int[] excuses = new int[MOST_TOLD_OF];
        private final int[] men = new int[MOST_TOLD_OF];
        private final int[] oftens = new int[MOST_TOLD_OF];
        private final int[] due = new int[MOST_EXCUSES];
        int count = 0;

        void clear() {
            count = 0;
        }

        int add(int excuse, int man, int often) {
            if (count >= MOST_TOLD_OF) {
                return NONE;
            }
            excuses[count] = excuse;
            men[count] = man;
            oftens[count] = often;
            count++;
            return count - 1;
        }

        /** DUTIES are dealt out to the EXCUSES that are KNOWN; the rest of them takes any other one, or none. */
        int ways(Text text, int man, int k) {
            if (!collect(man, k)) {
                return 0;
            }
            int left = dutiesOf(text, man);
            int choices = 1;
            int ways = 1;
            for (int excuse = 0; excuse < text.excuses; excuse++) {
                if (due[excuse] == NONE) {
                    choices++;
                } else {
                    ways *= subsets(left, due[excuse]);
                    left = Math.max(0, left - due[excuse]);
                }
            }
            for (int duty = 0; duty < left; duty++) {
                ways *= choices;
            }
            return ways;
        }

        /** Whether no EXCUSE is KNOWN to have been told him in two numbers. */
        private boolean collect(int man, int k) {
            for (int excuse = 0; excuse < MOST_EXCUSES; excuse++) {
                due[excuse] = NONE;
            }
            for (int i = 0; i < k && i < count; i++) {
                int excuse = excuses[i];
                if (men[i] == man && excuse >= 0 && excuse < MOST_EXCUSES) {
                    if (due[excuse] != NONE && due[excuse] != oftens[i]) {
                        return false;
                    }
                    due[excuse] = oftens[i];
                }
            }
            return true;
        }

        private static int dutiesOf(Text text, int man) {
            int sum = 0;
            for (int duty = 0; duty < text.duties; duty++) {
                sum += text.dutyRows[duty][OWED_TO] == man ? 1 : 0;
            }
            return sum;
        }

        private static int subsets(int of, int size) {
            int ways = 1;
            for (int i = 0; i < size; i++) {
                ways = ways * (of - i) / (i + 1);
            }
            return ways;
        }
    }
}
