/**
 * Keep our place: a line at a till, things that one of us would yet fetch, and what comes of it.
 * What it must do is told by ../shared/DOC.md; the parts inside follow its terms.
 */
public final class KeepOurPlace {
    public static final int NONE = -1, BAD = -2, STATE = -3, FULL = -4;
    public static final long NO = -4611686018427387904L;

    private static final int NOTHING = -11, OUTSIDE = -12, UNLIKE = -13, BELOW = -14;
    private static final int REFUSED = -100000;

    private static final int CUSTOMERS = 8, THINGS = 6, TEXTS = 6, TAPE = 160, SHEETS = 4, CELLS = 40;
    private static final int MOST_ITEMS = 40, MOST_NUMBER = 9, MOST_PLACE = 99, MOST_CHANCE = 100, MOST_SEEDS = 20;
    private static final int BYTES = 0, INTS = 2;

    private static final int PENNIES = 1, CARDED = 2, CHATTY = 3, COUPONED = 4, HELPED = 5, KINDS = 6;
    // What each kind stands under; -1: nothing.
    private static final int[] UNDER = {-1, 0, 0, 1, 2, 0};

    private static final int TAKES = 0, LETS = 1, WALKS = 2, PARTS = 3;
    private static final String FIRST_RULE = "takes 3 ; lets 10 + wait * 5 ; walks 2 + items ;";

    private final Line line;
    private final Things things;
    private final Reader reader;
    private final Rules rules;
    private final Till till;
    private final Errands errands;
    private final Sheets sheets;
    private final Image kept;

    public KeepOurPlace() {
        line = new Line();
        things = new Things();
        reader = new Reader();
        rules = new Rules(line);
        till = new Till(line, rules);
        errands = new Errands(line, things, till);
        sheets = new Sheets();
        kept = new Image();
        for (int i = 0; i < FIRST_RULE.length(); i++) reader.append(FIRST_RULE.charAt(i));
        reader.read();
        rules.add(reader);
        reader.clear();
    }

    // ---- the line, things

    public int customer(int kind, int what) {
        return line.join(kind, what);
    }

    public int thing(int shelf, int what) {
        return things.lay(shelf, what);
    }

    public int set(int what, int of, int v) {
        switch (what) {
            case 0: return line.moveUs(v);
            case 1: return line.holds(of) ? replace(line.items, of, v, MOST_ITEMS) : BAD;
            case 2: return line.holds(of) ? replace(line.numbers, of, v, MOST_NUMBER) : BAD;
            case 3: return things.holds(of) ? replace(things.shelves, of, v, MOST_PLACE) : BAD;
            case 4: return things.holds(of) ? replace(things.worths, of, v, MOST_PLACE) : BAD;
            case 5: return things.holds(of) ? replace(things.chances, of, v, MOST_CHANCE) : BAD;
            default: return BAD;
        }
    }

    public int told(int of, int what) {
        switch (what) {
            case 0: return line.holds(of) ? line.kinds[of] : BAD;
            case 1: return line.holds(of) ? line.items[of] : BAD;
            case 2: return line.holds(of) ? line.numbers[of] : BAD;
            case 3: return things.holds(of) ? things.shelves[of] : BAD;
            case 4: return things.holds(of) ? things.worths[of] : BAD;
            case 5: return things.holds(of) ? things.chances[of] : BAD;
            case 6: return line.holds(of) ? till.seconds(line.kinds[of], of, of) : BAD;
            case 7: return line.holds(of) ? till.minds(of, 0) : BAD;
            default: return BAD;
        }
    }

    public int serve() {
        if (line.many == 0) return STATE;
        int seconds = till.seconds(line.kinds[0], 0, 0);
        line.dropFirst();
        return seconds;
    }

    // ---- texts

    public int feed(int letter) {
        if (letter < 0 || letter > 255) return BAD;
        return reader.append(letter) ? reader.size : FULL;
    }

    public int text() {
        if (rules.many >= TEXTS) return FULL;
        reader.read();
        int answer = reader.fault == NONE ? rules.add(reader) : -100 - reader.fault;
        reader.clear();
        return answer;
    }

    public int force(int text) {
        if (text < 0 || text >= rules.many) return BAD;
        int was = rules.ruling;
        rules.ruling = text;
        return was;
    }

    // ---- errands

    public int turn() {
        return till.turnChanged(NONE, NONE);
    }

    public int errand(int sheet, int what) {
        if (what < 0 || what > 3 || !readErrand(sheet)) return REFUSED;
        errands.prepare();
        int back = errands.backWithout(NONE);
        switch (what) {
            case 0: return back;
            case 1: return errands.letBy(back);
            case 2: return errands.gain();
            default: return errands.worth();
        }
    }

    public int nearest(int what) {
        if (what < 0 || what > 2) return REFUSED;
        errands.prepare();
        errands.takeNearest();
        switch (what) {
            case 0: return errands.digits();
            case 1: return errands.backWithout(NONE);
            default: return errands.gain();
        }
    }

    public int best(int what) {
        if (what < 0 || what > 3) return REFUSED;
        int all = things.all();
        errands.survey(all);
        int chosen = errands.choose(all);
        switch (what) {
            case 0: return errands.plans[chosen];
            case 1: return errands.backs[chosen];
            case 2: return errands.gains[chosen];
            default: return errands.letBy(errands.backs[chosen]);
        }
    }

    public int latest(int thing, int n) {
        if (!things.holds(thing) || n < 0 || n > THINGS) return BAD;
        int left = till.turnChanged(NONE, NONE) - things.steps(thing, NONE) * till.pace(n);
        return left < 0 ? NONE : left;
    }

    // ---- were it otherwise

    public int leave() {
        int all = things.all();
        errands.survey(all);
        errands.takePlan(errands.plans[errands.choose(all)]);
        int found = NONE;
        int least = 0;
        for (int i = 0; i < errands.length; i++) {
            int back = errands.backWithout(i);
            if (found == NONE || back < least) {
                found = errands.order[i];
                least = back;
            }
        }
        return found;
    }

    public int more(int thing) {
        if (!things.holds(thing)) return REFUSED;
        int all = things.all();
        errands.survey(all);
        return errands.mostGain(all) - errands.mostGain(all & ~(1 << thing));
    }

    public int stand(int what) {
        if (what < 0 || what > 1) return REFUSED;
        int all = things.all();
        int was = line.ours;
        int place = 0;
        int most = 0;
        for (int p = 0; p <= line.many; p++) {
            line.ours = p;
            errands.survey(all);
            int gain = errands.mostGain(all);
            if (p == 0 || gain > most) {
                place = p;
                most = gain;
            }
        }
        line.ours = was;
        return what == 0 ? place : most;
    }

    public int change(int what) {
        if (what < 0 || what > 1) return BAD;
        int pair = NONE;
        int least = till.turnChanged(NONE, NONE);
        for (int a = 0; a < line.ours; a++) {
            for (int b = line.ours; b < line.many; b++) {
                int turn = till.turnChanged(a, b);
                if (turn < least) {
                    pair = 10 * a + b;
                    least = turn;
                }
            }
        }
        return what == 0 ? pair : least;
    }

    public int lines(int what) {
        if (what < 0 || what > 2) return BAD;
        int even = 0;
        int odd = 0;
        for (int i = 0; i < line.ours && i < line.many; i++) {
            int seconds = till.seconds(line.kinds[i], i, i);
            if (i % 2 == 0) even += seconds;
            else odd += seconds;
        }
        if (what == 0) return even;
        if (what == 1) return odd;
        return odd < even ? 1 : 0;
    }

    public long likely(int sheet) {
        if (!readErrand(sheet)) return NO;
        errands.prepare();
        long hoped = 0;
        for (int i = 0; i < errands.length; i++) {
            int t = errands.order[i];
            hoped += things.worths[t] * things.chances[t];
        }
        return hoped - 100L * (errands.worth() - errands.gain());
    }

    // ---- slips

    public int slip(int sheet, int what) {
        if (!sheets.holds(sheet) || what < 0 || what > 1) return BAD;
        if (sheets.isMissing(sheet)) return NOTHING;
        int last = sheets.sizes[sheet] - 1;
        if (last < 0 || !errands.takeRow(sheets.rows[sheet], last)) return BAD;
        errands.seek(sheets.rows[sheet][last]);
        errands.survey(errands.bits());
        return what == 0 ? errands.hits : errands.firstHit;
    }

    public int served(int sheet, int who) {
        if (!sheets.holds(sheet)) return BAD;
        if (sheets.isMissing(sheet)) return NOTHING;
        int n = sheets.sizes[sheet];
        if (n > line.many || who < NONE || who >= n) return BAD;
        if (who != NONE) return kindsOf(who, ownSeconds(sheet, who));
        for (int i = 0; i < n; i++) {
            if (ownSeconds(sheet, i) != till.seconds(line.kinds[i], i, i)) return i;
        }
        return NONE;
    }

    public int film(int sheet, int n) {
        if (!sheets.holds(sheet) || n < 0 || n > line.many) return BAD;
        sheets.lay(sheet, INTS, n);
        int seconds = 0;
        for (int i = 0; i < n; i++) {
            seconds += till.seconds(line.kinds[i], i, i);
            sheets.write(sheet, i, seconds);
        }
        return n;
    }

    public int drawn(int seed) {
        errands.survey(things.all());
        return errands.mostGain(things.draw(seed));
    }

    public long chance(int seed, int n, int part) {
        if (n < 1 || n > MOST_SEEDS || part < 0 || part > 1) return NO;
        errands.survey(things.all());
        int calm = 0;
        for (int i = 0; i < n; i++) {
            int chosen = errands.choose(things.draw(seed + i));
            if (errands.letBy(errands.backs[chosen]) == 0) calm++;
        }
        return (part == 0 ? calm : n) / commonDivisor(calm, n);
    }

    public int image() {
        kept.keep(line, things, rules);
        return line.many;
    }

    public int back() {
        if (!kept.there || kept.gone != line.gone) return STATE;
        kept.restore(line, things, rules);
        return line.many;
    }

    public int count(int what) {
        switch (what) {
            case 0: return line.many;
            case 1: return things.many;
            case 2: return line.ours;
            case 3: return rules.many;
            case 4: return reader.size;
            case 5: return rules.ruling;
            case 6: return line.gone;
            default: return BAD;
        }
    }

    // ---- the host

    public int sheet(int sheet, int sort, int n) {
        if (!sheets.holds(sheet) || sort < NONE || sort > INTS) return BAD;
        if (sort == NONE) {
            sheets.lay(sheet, NONE, 0);
            return 1;
        }
        if (n > CELLS) return BAD;
        if (n < 0) return BELOW;
        sheets.lay(sheet, sort, n);
        return 1;
    }

    public int cell(int sheet, int i, int v) {
        if (!sheets.holds(sheet)) return BAD;
        if (sheets.isMissing(sheet)) return NOTHING;
        return sheets.write(sheet, i, v) ? 1 : OUTSIDE;
    }

    public int copy(int sheet, int i, int other, int j, int n) {
        if (!sheets.holds(sheet) || !sheets.holds(other)) return BAD;
        if (sheets.isMissing(sheet) || sheets.isMissing(other)) return NOTHING;
        if (sheets.sorts[sheet] != sheets.sorts[other]) return UNLIKE;
        if (!sheets.spans(sheet, i, n) || !sheets.spans(other, j, n)) return OUTSIDE;
        System.arraycopy(sheets.rows[sheet], i, sheets.rows[other], j, n);
        return n;
    }

    public int customers(int sheet, int sort, int from, int n) {
        if (!sheets.holds(sheet) || sort < BYTES || sort > INTS || n < 0 || n > CUSTOMERS) return BAD;
        if (sheets.isMissing(sheet)) return NOTHING;
        if (sheets.sorts[sheet] != sort) return UNLIKE;
        int came = 0;
        for (int k = 0; k < n; k++) {
            long at = from + 2L * k;
            if (at < 0 || at + 1 >= sheets.sizes[sheet]) return OUTSIDE;
            int i = (int) at;
            if (line.join(sheets.rows[sheet][i], sheets.rows[sheet][i + 1]) >= 0) came++;
        }
        return came;
    }

    public int taken(int customer, int k) {
        if (k < 0 || k >= KINDS) return BAD;
        if (!line.holds(customer)) return NOTHING;
        return isUnder(line.kinds[customer], k) ? line.numbers[customer] : UNLIKE;
    }

    // ---- what the calls share

    private static int replace(int[] row, int i, int v, int most) {
        if (i < 0 || i >= row.length || v < 0 || v > most) return BAD;
        int was = row[i];
        row[i] = v;
        return was;
    }

    private static boolean isUnder(int kind, int over) {
        int k = kind;
        for (int up = 0; up < KINDS && k >= 0 && k < KINDS; up++) {
            if (k == over) return true;
            k = UNDER[k];
        }
        return false;
    }

    /** 1 at least, so that it may divide. */
    private static int commonDivisor(int a, int b) {
        int x = a;
        int y = b;
        for (int i = 0; i < MOST_SEEDS && x > 0; i++) {
            int rest = y % x;
            y = x;
            x = rest;
        }
        return Math.max(1, y);
    }

    private boolean readErrand(int sheet) {
        return sheets.holds(sheet) && !sheets.isMissing(sheet)
            && errands.takeRow(sheets.rows[sheet], sheets.sizes[sheet]);
    }

    /** A long, so that two far numbers of a sheet don't wrap to somebody's seconds. */
    private long ownSeconds(int sheet, int who) {
        if (who < 0 || who >= CELLS) return 0;
        long through = sheets.rows[sheet][who];
        return who == 0 ? through : through - sheets.rows[sheet][who - 1];
    }

    private int kindsOf(int who, long own) {
        int bits = 0;
        for (int kind = 0; kind < KINDS; kind++) {
            if (till.seconds(kind, who, who) == own) bits |= 1 << kind;
        }
        return bits;
    }

    /** The customers as they stand, and our place among them. */
    private static final class Line {
        private final int[] kinds = new int[CUSTOMERS];
        private final int[] items = new int[CUSTOMERS];
        private final int[] numbers = new int[CUSTOMERS];
        private int many;
        private int ours;
        private int gone;

        private boolean holds(int who) {
            return who >= 0 && who < many;
        }

        private int join(int kind, int what) {
            if (kind < 0 || kind >= KINDS || what < 0 || what > 10 * MOST_ITEMS + MOST_NUMBER) return BAD;
            if (many >= CUSTOMERS) return FULL;
            kinds[many] = kind;
            items[many] = what / 10;
            numbers[many] = what % 10;
            many++;
            return many - 1;
        }

        private int moveUs(int place) {
            if (place < 0 || place > many) return BAD;
            int was = ours;
            ours = place;
            return was;
        }

        private void dropFirst() {
            if (many <= 0) return;
            for (int i = 1; i < many; i++) {
                kinds[i - 1] = kinds[i];
                items[i - 1] = items[i];
                numbers[i - 1] = numbers[i];
            }
            many--;
            gone++;
            if (ours > 0) ours--;
        }
    }

    /** The things on their shelves. */
    private static final class Things {
        private final int[] shelves = new int[THINGS];
        private final int[] worths = new int[THINGS];
        private final int[] chances = new int[THINGS];
        private int many;

        private boolean holds(int thing) {
            return thing >= 0 && thing < many;
        }

        private int lay(int shelf, int what) {
            if (shelf < 0 || shelf > MOST_PLACE || what < 0) return BAD;
            if (what / 1000 > MOST_PLACE || what % 1000 > MOST_CHANCE) return BAD;
            if (many >= THINGS) return FULL;
            shelves[many] = shelf;
            worths[many] = what / 1000;
            chances[many] = what % 1000;
            many++;
            return many - 1;
        }

        /** All things, as a set of bits. */
        private int all() {
            return (1 << many) - 1;
        }

        /** The till is where NONE stands for a thing. */
        private int shelfOf(int thing) {
            return holds(thing) ? shelves[thing] : 0;
        }

        private int steps(int from, int to) {
            int a = shelfOf(from);
            int b = shelfOf(to);
            return Math.abs(a % 10 - b % 10) + Math.abs(a / 10 - b / 10);
        }

        /** The things that are there by a seed, as a set of bits. */
        private int draw(int seed) {
            int there = 0;
            int z = seed;
            for (int t = 0; t < many; t++) {
                z = z * 1103515245 + 12345;
                if ((z >>> 9) % 100 < chances[t]) there |= 1 << t;
            }
            return there;
        }
    }

    /**
     * Reads the tape: first its tokens, up to one that can stand nowhere, then what they tell, as
     * steps for a stack: a number as itself, all else below 0. After a fault no token fits any
     * more, so that the reading ends by itself.
     */
    private static final class Reader {
        private static final int DEEPEST = 5, DIGITS = 4, NAMES = 6;
        private static final int ITEMS = -1, MANY = -6;
        private static final int NEGATE = -7, NOT = -8, OR = -9, AND = -10, LESS = -11, LIKE = -12;
        private static final int PLUS = -13, MINUS = -14, TIMES = -15;
        // Tokens: a sign is its own byte, a key its place among the words, below KEY.
        private static final int END = -1, WRONG = -2, NUMBER = -3, NAME = -4, KEY = -5;
        private static final int KEY_TAKES = KEY - 6, KEY_LETS = KEY - 7, KEY_WALKS = KEY - 8;
        private static final int KEY_OR = KEY - 9, KEY_AND = KEY - 10, KEY_NOT = KEY - 11;
        private static final String WORDS = "items number place ours wait many takes lets walks or and not ";
        private static final String SIGNS = "();+-*<=";

        private final int[] tape = new int[TAPE];
        private int size;
        private final int[] tokens = new int[TAPE + 1];
        private final int[] places = new int[TAPE + 1];
        private final int[] values = new int[TAPE + 1];
        private int noted;
        private int here;
        private int token;
        private int fault;
        private final int[] code = new int[TAPE];
        private int length;
        private final int[] starts = new int[PARTS + 1];

        private boolean append(int letter) {
            if (size >= TAPE) return false;
            tape[size] = letter;
            size++;
            return true;
        }

        private void clear() {
            size = 0;
        }

        private void read() {
            scan();
            here = 0;
            token = tokens[0];
            fault = NONE;
            length = 0;
            readPart(TAKES, KEY_TAKES);
            readPart(LETS, KEY_LETS);
            readPart(WALKS, KEY_WALKS);
            starts[PARTS] = length;
            if (token != END) fail();
        }

        // -- tokens

        private void scan() {
            noted = 0;
            int at = 0;
            for (int i = 0; i < TAPE && at < size; i++) {
                int c = tape[at];
                if (c == 32 || c == 10) {
                    at++;
                } else {
                    at = scanToken(at, c);
                    if (noted > 0 && tokens[noted - 1] == WRONG) return;
                }
            }
            note(END, size, 0);
        }

        /** Answers where the token ends. */
        private int scanToken(int at, int c) {
            if (isLetter(c)) return scanWord(at);
            if (isDigit(c)) return scanNumber(at);
            note(SIGNS.indexOf((char) c) >= 0 ? c : WRONG, at, 0);
            return at + 1;
        }

        private int scanNumber(int at) {
            int value = 0;
            int end = at;
            for (int i = at; i < size && isDigit(tape[i]); i++) {
                if (i < at + DIGITS) value = value * 10 + tape[i] - '0';
                end = i + 1;
            }
            note(end - at > DIGITS ? WRONG : NUMBER, at, value);
            return end;
        }

        private int scanWord(int at) {
            int end = at;
            for (int i = at; i < size && isLetter(tape[i]); i++) end = i + 1;
            int word = wordOf(at, end);
            if (word == NONE) note(WRONG, at, 0);
            else if (word < NAMES) note(NAME, at, ITEMS - word);
            else note(KEY - word, at, 0);
            return end;
        }

        /** Which of the words stands on the tape there; NONE. */
        private int wordOf(int at, int end) {
            int word = 0;
            int from = 0;
            for (int i = 0; i < WORDS.length(); i++) {
                if (WORDS.charAt(i) == ' ') {
                    if (i - from == end - at && isSame(from, i, at)) return word;
                    word++;
                    from = i + 1;
                }
            }
            return NONE;
        }

        private boolean isSame(int from, int to, int at) {
            for (int i = from; i < to && i < WORDS.length(); i++) {
                int place = at + i - from;
                if (place < 0 || place >= size || WORDS.charAt(i) != tape[place]) return false;
            }
            return true;
        }

        private void note(int kind, int place, int value) {
            if (noted >= tokens.length) return;
            tokens[noted] = kind;
            places[noted] = place;
            values[noted] = value;
            noted++;
        }

        private static boolean isLetter(int c) {
            return c >= 'a' && c <= 'z';
        }

        private static boolean isDigit(int c) {
            return c >= '0' && c <= '9';
        }

        // -- what they tell; open: how many ( , not and - are

        private void readPart(int part, int key) {
            starts[part] = length;
            expect(key);
            readOr(0);
            expect(';');
        }

        private void readOr(int open) {
            readAnd(open);
            for (int i = 0; i < TAPE && token == KEY_OR; i++) {
                advance();
                readAnd(open);
                emit(OR);
            }
        }

        private void readAnd(int open) {
            readNot(open);
            for (int i = 0; i < TAPE && token == KEY_AND; i++) {
                advance();
                readNot(open);
                emit(AND);
            }
        }

        private void readNot(int open) {
            if (token == KEY_NOT) {
                if (mayOpen(open)) {
                    readNot(open + 1);
                    emit(NOT);
                }
                return;
            }
            readSum(open);
            if (token == '<' || token == '=') {
                int sign = token == '<' ? LESS : LIKE;
                advance();
                readSum(open);
                emit(sign);
            }
        }

        private void readSum(int open) {
            readTerm(open);
            for (int i = 0; i < TAPE && (token == '+' || token == '-'); i++) {
                int sign = token == '+' ? PLUS : MINUS;
                advance();
                readTerm(open);
                emit(sign);
            }
        }

        private void readTerm(int open) {
            readOne(open);
            for (int i = 0; i < TAPE && token == '*'; i++) {
                advance();
                readOne(open);
                emit(TIMES);
            }
        }

        private void readOne(int open) {
            if (token == NUMBER || token == NAME) {
                emit(values[here]);
                advance();
            } else if (token == '-') {
                if (mayOpen(open)) {
                    readOne(open + 1);
                    emit(NEGATE);
                }
            } else if (token == '(') {
                if (mayOpen(open)) {
                    readOr(open + 1);
                    expect(')');
                }
            } else {
                fail();
            }
        }

        /** Goes past a token that opens something, if one more may be open. */
        private boolean mayOpen(int open) {
            if (open >= DEEPEST) {
                fail();
                return false;
            }
            advance();
            return true;
        }

        private void expect(int wanted) {
            if (token == wanted) advance();
            else fail();
        }

        private void advance() {
            if (fault != NONE || here + 1 >= noted) return;
            here++;
            token = tokens[here];
        }

        private void fail() {
            if (fault == NONE) fault = places[here];
            token = WRONG;
        }

        private void emit(int step) {
            if (length >= code.length) return;
            code[length] = step;
            length++;
        }
    }

    /** The texts that were read, which of them is the rule, and what it tells. */
    private static final class Rules {
        private static final int BOUND = 99;

        private final Line line;
        private final int[][] codes = new int[TEXTS][TAPE];
        private final int[][] starts = new int[TEXTS][PARTS + 1];
        private final int[] names = new int[Reader.NAMES];
        private final int[] stack = new int[TAPE];
        private int many;
        private int ruling;

        private Rules(Line line) {
            this.line = line;
        }

        private int add(Reader read) {
            if (many >= TEXTS) return FULL;
            System.arraycopy(read.code, 0, codes[many], 0, TAPE);
            System.arraycopy(read.starts, 0, starts[many], 0, PARTS + 1);
            many++;
            return many - 1;
        }

        /** What a part of the rule tells, within its bounds. */
        private int tell(int part, int items, int number, int place, int wait) {
            if (ruling < 0 || ruling >= many || part < 0 || part >= PARTS) return 0;
            names[0] = items;
            names[1] = number;
            names[2] = place;
            names[3] = line.ours;
            names[4] = wait;
            names[5] = line.many;
            int[] code = codes[ruling];
            int end = Math.min(code.length, starts[ruling][part + 1]);
            int top = 0;
            for (int i = Math.max(0, starts[ruling][part]); i < end; i++) {
                int step = code[i];
                if (step >= Reader.MANY) {
                    if (top >= stack.length) return 0;
                    stack[top] = step >= 0 ? step : names[Reader.ITEMS - step];
                    top++;
                } else if (step == Reader.NEGATE || step == Reader.NOT) {
                    if (top < 1) return 0;
                    int v = stack[top - 1];
                    stack[top - 1] = step == Reader.NEGATE ? -v : v == 0 ? 1 : 0;
                } else {
                    if (top < 2) return 0;
                    top--;
                    stack[top - 1] = ofTwo(step, stack[top - 1], stack[top]);
                }
            }
            return top < 1 ? 0 : Math.max(0, Math.min(BOUND, stack[top - 1]));
        }

        private static int ofTwo(int step, int left, int right) {
            switch (step) {
                case Reader.OR: return left != 0 || right != 0 ? 1 : 0;
                case Reader.AND: return left != 0 && right != 0 ? 1 : 0;
                case Reader.LESS: return left < right ? 1 : 0;
                case Reader.LIKE: return left == right ? 1 : 0;
                case Reader.PLUS: return left + right;
                case Reader.MINUS: return left - right;
                default: return left * right;
            }
        }
    }

    /** What the rule tells of the line's customers and of our steps. */
    private static final class Till {
        private static final int CARD = 60, PENNY = 5, CHAT = 20;

        private final Line line;
        private final Rules rules;

        private Till(Line line, Rules rules) {
            this.line = line;
            this.rules = rules;
        }

        /** Seconds of one step, when she has had so many things. */
        private int pace(int had) {
            return rules.tell(WALKS, had, 0, 0, 0);
        }

        /** Seconds of a customer, were he of that kind and stood in that place. */
        private int seconds(int kind, int who, int place) {
            if (!line.holds(who)) return 0;
            int items = line.items[who];
            int number = line.numbers[who];
            int plain = items * rules.tell(TAKES, items, number, place, 0);
            switch (kind) {
                case PENNIES: return plain + PENNY * number;
                case CARDED: return Math.min(plain, CARD);
                case CHATTY: return plain + PENNY * number + (items % 2 == 1 ? CHAT : 0);
                case COUPONED: return Math.min(plain, CARD) + number;
                case HELPED: return plain / 2;
                default: return plain;
            }
        }

        private int minds(int who, int wait) {
            if (!line.holds(who)) return 0;
            int number = line.numbers[who];
            int plain = rules.tell(LETS, line.items[who], number, who, wait);
            switch (line.kinds[who]) {
                case CARDED: return 2 * plain;
                case CHATTY: return 0;
                case COUPONED: return Math.max(0, 2 * plain - number);
                case HELPED: return plain + 1;
                default: return plain;
            }
        }

        /** Our turn, if customer b stood in the place of a, who is ahead; NONE: as all stand. */
        private int turnChanged(int a, int b) {
            int sum = 0;
            for (int i = 0; i < line.ours && i < line.many; i++) {
                int who = i == a && line.holds(b) ? b : i;
                sum += seconds(line.kinds[who], who, i);
            }
            return sum;
        }
    }

    /**
     * Errands are reckoned by tables that are laid anew for each call: what a step takes by the
     * things she has, and what we stand for by the customers let by. An errand at hand is told by
     * order and length; a survey keeps the best one of every set of things.
     */
    private static final class Errands {
        private static final int SETS = 64;

        private final Line line;
        private final Things things;
        private final Till till;
        private final int[] paces = new int[THINGS + 1];
        private final int[] dues = new int[CUSTOMERS + 1];
        private final int[] grudges = new int[CUSTOMERS + 1];
        private int behind;
        private final int[] order = new int[THINGS];
        private int length;
        private final int[] plans = new int[SETS];
        private final int[] backs = new int[SETS];
        private final int[] gains = new int[SETS];
        private int soughtSet;
        private int soughtBack;
        private int hits;
        private int firstHit;

        private Errands(Line line, Things things, Till till) {
            this.line = line;
            this.things = things;
            this.till = till;
        }

        private void prepare() {
            for (int had = 0; had <= THINGS; had++) paces[had] = till.pace(had);
            behind = Math.max(0, line.many - line.ours);
            dues[0] = till.turnChanged(NONE, NONE);
            grudges[0] = 0;
            for (int k = 0; k < behind && k < CUSTOMERS; k++) {
                int who = line.ours + k;
                dues[k + 1] = dues[k] + till.seconds(line.kinds[who], who, who);
                grudges[k + 1] = grudges[k] + till.minds(who, k);
            }
        }

        private int letBy(int back) {
            int k = 0;
            while (k < behind && k < CUSTOMERS && back > dues[k]) k++;
            return k;
        }

        private int loss(int back) {
            int k = letBy(back);
            return grudges[k] + Math.max(0, back - dues[k]);
        }

        private int leg(int from, int to, int had) {
            return had < 0 || had > THINGS ? 0 : things.steps(from, to) * paces[had];
        }

        // -- the errand at hand

        private boolean takeRow(int[] row, int n) {
            length = 0;
            if (n < 0 || n > row.length || n > THINGS) return false;
            int had = 0;
            for (int i = 0; i < n; i++) {
                int t = row[i];
                if (!things.holds(t) || (had & 1 << t) != 0) return false;
                had |= 1 << t;
                goTo(t);
            }
            return true;
        }

        private void takePlan(int plan) {
            length = 0;
            int unit = 1;
            for (int i = 1; i < THINGS && unit > 0 && plan / unit >= 10; i++) unit *= 10;
            for (int i = 0; i < THINGS && unit > 0; i++) {
                int t = plan / unit % 10 - 1;
                if (things.holds(t)) goTo(t);
                unit /= 10;
            }
        }

        private void takeNearest() {
            length = 0;
            int here = NONE;
            int time = 0;
            int had = 0;
            for (int i = 0; i < things.many; i++) {
                int t = nearestOf(here, had);
                if (t == NONE) return;
                time += leg(here, t, length);
                if (time + leg(t, NONE, length + 1) > dues[0]) return;
                goTo(t);
                had |= 1 << t;
                here = t;
            }
        }

        private int nearestOf(int here, int had) {
            int found = NONE;
            for (int t = 0; t < things.many; t++) {
                boolean fresh = (had & 1 << t) == 0;
                if (fresh && (found == NONE || things.steps(here, t) < things.steps(here, found))) found = t;
            }
            return found;
        }

        private void goTo(int t) {
            if (length >= THINGS) return;
            order[length] = t;
            length++;
        }

        /** Seconds of the errand at hand; but for the thing at one place in it, if any. */
        private int backWithout(int skipped) {
            int here = NONE;
            int time = 0;
            int had = 0;
            for (int i = 0; i < length; i++) {
                if (i == skipped) continue;
                time += leg(here, order[i], had);
                here = order[i];
                had++;
            }
            return time + leg(here, NONE, had);
        }

        private int digits() {
            int all = 0;
            for (int i = 0; i < length; i++) all = all * 10 + order[i] + 1;
            return all;
        }

        private int bits() {
            int set = 0;
            for (int i = 0; i < length; i++) set |= 1 << order[i];
            return set;
        }

        private int worth() {
            return worthOf(bits());
        }

        private int gain() {
            return worth() - loss(backWithout(NONE));
        }

        // -- all errands

        private void survey(int allowed) {
            prepare();
            for (int s = 0; s < SETS; s++) plans[s] = NONE;
            visit(this, allowed, NONE, 0, 0, 0, 0);
        }

        /** The next survey counts the orders of the things of the errand at hand that make that BACK. */
        private void seek(int back) {
            hits = 0;
            firstHit = NONE;
            soughtSet = bits();
            soughtBack = back;
        }

        /** Goes through the errands in their order, THING by THING; a plan tells one as digits. */
        private static void visit(Errands e, int allowed, int here, int time, int set, int plan, int had) {
            e.weigh(set, plan, time + e.leg(here, NONE, had));
            if (had >= THINGS) return;
            for (int t = 0; t < e.things.many; t++) {
                int bit = 1 << t;
                if ((allowed & bit) != 0 && (set & bit) == 0) {
                    visit(e, allowed, t, time + e.leg(here, t, had), set | bit, plan * 10 + t + 1, had + 1);
                }
            }
        }

        private void weigh(int set, int plan, int back) {
            if (set < 0 || set >= SETS) return;
            int gain = worthOf(set) - loss(back);
            if (plans[set] == NONE || gain > gains[set]) {
                plans[set] = plan;
                backs[set] = back;
                gains[set] = gain;
            }
            if (set == soughtSet && back == soughtBack) {
                if (hits == 0) firstHit = plan;
                hits++;
            }
        }

        private int worthOf(int set) {
            int sum = 0;
            for (int t = 0; t < things.many; t++) {
                if ((set & 1 << t) != 0) sum += things.worths[t];
            }
            return sum;
        }

        /**
         * The set of the best errand by these things alone. A lesser plan has fewer things or,
         * with as many, comes first, so that plans decide between like gains.
         */
        private int choose(int allowed) {
            int best = 0;
            for (int s = 1; s < SETS; s++) {
                if ((s & ~allowed) == 0 && plans[s] != NONE && isBetter(s, best)) best = s;
            }
            return best;
        }

        private boolean isBetter(int s, int than) {
            return gains[s] > gains[than] || gains[s] == gains[than] && plans[s] < plans[than];
        }

        private int mostGain(int allowed) {
            return gains[choose(allowed)];
        }
    }

    /** The rows of numbers; of a row only as much counts as its size tells. */
    private static final class Sheets {
        private final int[] sorts = {NONE, NONE, NONE, NONE};
        private final int[] sizes = new int[SHEETS];
        private final int[][] rows = new int[SHEETS][CELLS];

        private boolean holds(int sheet) {
            return sheet >= 0 && sheet < SHEETS;
        }

        private boolean isMissing(int sheet) {
            return !holds(sheet) || sorts[sheet] == NONE;
        }

        private boolean spans(int sheet, int i, int n) {
            return holds(sheet) && i >= 0 && n >= 0 && (long) i + n <= sizes[sheet];
        }

        private void lay(int sheet, int sort, int n) {
            if (!holds(sheet) || n < 0 || n > CELLS) return;
            sorts[sheet] = sort;
            sizes[sheet] = n;
            for (int i = 0; i < CELLS; i++) rows[sheet][i] = 0;
        }

        private boolean write(int sheet, int i, int v) {
            if (!holds(sheet) || i < 0 || i >= sizes[sheet]) return false;
            rows[sheet][i] = narrow(sorts[sheet], v);
            return true;
        }

        private static int narrow(int sort, int v) {
            if (sort == BYTES) return (byte) v;
            return sort == INTS ? v : (short) v;
        }
    }

    /** What was kept, and how many had been served by then. */
    private static final class Image {
        private boolean there;
        private int gone;
        private int customers;
        private int ours;
        private int ruling;
        private int many;
        private final int[] items = new int[CUSTOMERS];
        private final int[] numbers = new int[CUSTOMERS];
        private final int[] shelves = new int[THINGS];
        private final int[] worths = new int[THINGS];
        private final int[] chances = new int[THINGS];

        private void keep(Line line, Things things, Rules rules) {
            there = true;
            gone = line.gone;
            customers = line.many;
            ours = line.ours;
            ruling = rules.ruling;
            many = things.many;
            System.arraycopy(line.items, 0, items, 0, CUSTOMERS);
            System.arraycopy(line.numbers, 0, numbers, 0, CUSTOMERS);
            System.arraycopy(things.shelves, 0, shelves, 0, THINGS);
            System.arraycopy(things.worths, 0, worths, 0, THINGS);
            System.arraycopy(things.chances, 0, chances, 0, THINGS);
        }

        private void restore(Line line, Things things, Rules rules) {
            line.many = customers;
            line.ours = ours;
            rules.ruling = ruling;
            things.many = many;
            System.arraycopy(items, 0, line.items, 0, CUSTOMERS);
            System.arraycopy(numbers, 0, line.numbers, 0, CUSTOMERS);
            System.arraycopy(shelves, 0, things.shelves, 0, THINGS);
            System.arraycopy(worths, 0, things.worths, 0, THINGS);
            System.arraycopy(chances, 0, things.chances, 0, THINGS);
        }
    }
}
