import java.util.Arrays;

/**
 * A river that is crossed by stones which those throw in who leave. The document of the project says what each
 * call answers; the terms in capitals in the comments are the document's.
 */
public final class FarewellStones {
    public static final int NONE = -1;

    private static final int NO_WAY = -2;
    private static final int NO_STEP = -2;
    private static final int NO_STONE = -2;
    private static final int LOST = -2;
    private static final int NO_WAY_NOW = -3;

    // A CELL's number is y * STRIDE + x, whatever the RIVER's size: so the order of numbers is by y, then x.
    private static final int STRIDE = 12;
    private static final int ROWS = 8;
    private static final int CELLS = STRIDE * ROWS;

    private static final int MAX_LEAP = 4;
    private static final int MAX_LEAVERS = 8;
    private static final int MAX_EACH = 9;
    private static final int MAX_STONES = MAX_LEAVERS * MAX_EACH;
    private static final int MAX_FLOODS = 8;
    private static final int MAX_DEPTHS = 20;
    private static final int MAX_DEPTH = 9;
    private static final int MAX_FLOW = 9;
    private static final int MAX_FLOOD_DAY = 199;
    private static final int MAX_FORCE = 12;
    private static final int MAX_FIRST_DAY = 99;
    private static final int MAX_SIZE = 9;
    private static final int MAX_GRIEF = 99;
    private static final int MAX_MOSS = 99;
    private static final int MAX_DAYS = 100;
    private static final int MAX_UNDO = 25;
    private static final int MAX_TOLD = 20;
    private static final int MAX_TOLD_STONES = 99;
    private static final int MAX_FITS_DAYS = 60;
    private static final int MAX_BREAKS_DAYS = 200;
    private static final int SLOTS = 3;

    private static final int MAX_TAPE = 2000;
    private static final int FEED = 20;
    private static final int MAX_TOKENS = 400;
    private static final int MAX_IFS = 4;
    private static final int MAX_BRACKETS = 6;
    private static final int MAX_NAME = 8;
    private static final int MAX_DIGITS = 4;

    private static final int SYNTAX = 1;
    private static final int ROOM = 2;
    private static final int TWICE = 3;
    private static final int WRONG = 5;

    // Kinds of TOKENS: a SIGN is its own byte, a word in quotes is FIRST_WORD and its place among WORDS.
    private static final String SIGNS = ";=+-*/<()";
    private static final String WORDS =
        "river depth flow  leap  leaverflood carry slip  if    then  else  stonesdeep  force moss  acrossalong ";
    private static final int WORD_SIZE = 6;
    private static final int WORD_COUNT = 17;
    private static final int FIRST_WORD = 256;
    private static final int W_RIVER = 256;
    private static final int W_DEPTH = 257;
    private static final int W_FLOW = 258;
    private static final int W_LEAP = 259;
    private static final int W_LEAVER = 260;
    private static final int W_FLOOD = 261;
    private static final int W_CARRY = 262;
    private static final int W_SLIP = 263;
    private static final int W_IF = 264;
    private static final int W_THEN = 265;
    private static final int W_ELSE = 266;
    private static final int W_STONES = 267;
    private static final int W_ALONG = 272;
    private static final int T_NAME = 300;
    private static final int T_INT = 301;
    private static final int T_END = 302;
    private static final int T_NO_TOKEN = 303;
    private static final int BLANK = 0;
    private static final int LETTER = 1;
    private static final int DIGIT = 2;
    private static final int OTHER = 3;

    // A LAW is kept as steps over a stack; UNLESS goes on elsewhere if the one number is not less than the other.
    private static final int PUSH = 0;
    private static final int LOOK = 1;
    private static final int ADD = 2;
    private static final int TAKE = 3;
    private static final int TIMES = 4;
    private static final int DIVIDE = 5;
    private static final int UNLESS = 6;
    private static final int END = 7;
    private static final int VARS = 6;
    // Each of 6 brackets within one another leaves two numbers waiting, what is within them three, an if one more.
    private static final int STACK = 32;

    // Where a LEAP can go: nearest first, so that those of a LEAP of n are the first 2 * n * (n + 1).
    private static final int[] LEAP_X = {
        0, -1, 1, 0,
        0, -1, 1, -2, 2, -1, 1, 0,
        0, -1, 1, -2, 2, -3, 3, -2, 2, -1, 1, 0,
        0, -1, 1, -2, 2, -3, 3, -4, 4, -3, 3, -2, 2, -1, 1, 0};
    private static final int[] LEAP_Y = {
        -1, 0, 0, 1,
        -2, -1, -1, 0, 0, 1, 1, 2,
        -3, -2, -2, -1, -1, 0, 0, 1, 1, 2, 2, 3,
        -4, -3, -3, -2, -2, -1, -1, 0, 0, 1, 1, 2, 2, 3, 3, 4};

    // A way's cost is one number: what counts first by more than the second can ever come to.
    private static final int MANY_SLIPS = 10000;
    private static final int MANY_LEAPS = 1000;
    private static final int NEVER = 1 << 30;

    private static final int NEAR_BANK = -1;
    private static final int FAR_BANK = -2;
    private static final int NOTHING = -3;

    private final Tape tape = new Tape();
    private final Reader reader = new Reader();
    private int faultPlace = NONE;
    private River river = new River();
    private River spareRiver = new River();
    private final Bed bed = new Bed();
    private final Bed trial = new Bed();
    private final Past past = new Past();
    private final Bed[] slots = new Bed[SLOTS];
    private final boolean[] held = new boolean[SLOTS];
    private final int[] toldCells = new int[MAX_TOLD];
    private final int[] toldStones = new int[MAX_TOLD];
    private int told;
    private final Ways ways = new Ways();
    private final Fords fordFinder = new Fords();
    private final Givers givers = new Givers();

    public FarewellStones() {
        for (int i = 0; i < SLOTS; i++) slots[i] = new Bed();
        river.clear();
        beginAnew();
    }

    // ---- the tape ----

    public int feed(int a, int b, int c, int d, int e) {
        if (tape.length + FEED > MAX_TAPE) return NONE;
        tape.put(a);
        tape.put(b);
        tape.put(c);
        tape.put(d);
        tape.put(e);
        return tape.length;
    }

    public int back(int n) {
        if (n < 0 || n > tape.length) return NONE;
        tape.length -= n;
        return tape.length;
    }

    public int read() {
        int fault = reader.readText(tape, spareRiver);
        tape.length = 0;
        faultPlace = fault == 0 ? NONE : reader.faultPlace();
        if (fault == 0) {
            River old = river;
            river = spareRiver;
            spareRiver = old;
            beginAnew();
        }
        return fault;
    }

    public int place() {
        return faultPlace;
    }

    private void beginAnew() {
        bed.clear();
        past.clear();
        told = 0;
        for (int i = 0; i < SLOTS; i++) held[i] = false;
    }

    // ---- what is ----

    public int cell(int x, int y, int what) {
        if (!river.has(x, y)) return NONE;
        int at = cellNumber(x, y);
        switch (what) {
            case 0: return bed.heights[at];
            case 1: return river.depths[at];
            case 2: return bed.mossAt(at);
            case 3: return bed.isStep(river, at) ? 1 : 0;
            case 4: return bed.isStep(river, at) ? bed.slippery(river, at) : NO_STEP;
            case 5: return bed.heights[at] > 0 ? bed.ownerAt(at, bed.heights[at] - 1) : NO_STONE;
            default: return NONE;
        }
    }

    public int stone(int x, int y, int i) {
        if (!river.has(x, y)) return NONE;
        int at = cellNumber(x, y);
        if (i < 0 || i >= bed.heights[at]) return NONE;
        return bed.ownerAt(at, i);
    }

    public int leaver(int leaver, int what) {
        if (!isLeaver(leaver)) return NONE;
        switch (what) {
            case 0: return bed.left(river, leaver);
            case 1: return bed.thrown[leaver] - bed.lost[leaver];
            case 2: return bed.lost[leaver];
            case 3: return river.sizes[leaver];
            case 4: return bed.mayThrow(river, leaver) ? 1 : 0;
            default: return NONE;
        }
    }

    public int count(int what) {
        switch (what) {
            case 0: return river.along;
            case 1: return river.across;
            case 2: return river.leap;
            case 3: return river.leavers;
            case 4: return river.floods;
            case 5: return bed.day;
            case 6: return bed.countLying();
            case 7: return bed.countLost();
            case 8: return bed.countSteps(river);
            case 9: return tape.length;
            case 10: return past.size;
            case 11: return told;
            case 12: return countHeld();
            default: return NONE;
        }
    }

    private int countHeld() {
        int sum = 0;
        for (int i = 0; i < SLOTS; i++) if (held[i]) sum++;
        return sum;
    }

    private boolean isLeaver(int leaver) {
        return leaver >= 0 && leaver < river.leavers;
    }

    private static int cellNumber(int x, int y) {
        return y * STRIDE + x;
    }

    private static int cellName(int at) {
        return 100 * (at / STRIDE) + at % STRIDE;
    }

    // ---- what is done ----

    public int hurl(int leaver, int x, int y) {
        if (!isLeaver(leaver) || !river.has(x, y) || !bed.mayThrow(river, leaver)) return NONE;
        past.keep(bed);
        int to = bed.throwStone(river, leaver, x, y);
        return to == LOST ? LOST : 1000 + cellName(to);
    }

    public int days(int n) {
        if (n < 0 || n > MAX_DAYS) return NONE;
        if (n > 0) {
            past.keep(bed);
            bed.passDays(river, n, 0, river.across);
        }
        return bed.day;
    }

    public boolean undo() {
        return past.bringBack(bed);
    }

    public boolean hold(int slot) {
        if (slot < 0 || slot >= SLOTS) return false;
        slots[slot].copyFrom(bed);
        held[slot] = true;
        return true;
    }

    public boolean restore(int slot) {
        if (slot < 0 || slot >= SLOTS || !held[slot]) return false;
        bed.copyFrom(slots[slot]);
        past.clear();
        return true;
    }

    // ---- who gets over ----

    public int over(int by, int what) {
        if (by < 0 || by > 1 || what < 0 || what > 1) return NONE;
        if (!findWayOver(by)) return NO_WAY;
        return what == 0 ? ways.leaps() : ways.sum();
    }

    public int overAt(int by, int i) {
        if (by < 0 || by > 1 || i < 0) return NONE;
        if (!findWayOver(by)) return NO_WAY;
        return i < ways.length ? cellName(ways.line[i]) : NONE;
    }

    private boolean findWayOver(int by) {
        bed.weighSlippery(river, ways.weights);
        return by == 0 ? ways.find(river, 1, MANY_SLIPS) : ways.find(river, MANY_LEAPS, 1);
    }

    // ---- what would be ----

    public int lack(int what) {
        if (what < 0 || what > 1) return NONE;
        findLack();
        return what == 0 ? ways.sum() : ways.leaps();
    }

    public int lackAt(int i) {
        if (i < 0) return NONE;
        findLack();
        return i < ways.length ? cellName(ways.line[i]) : NONE;
    }

    public int grief() {
        return findGivers() ? givers.sum() : NO_WAY;
    }

    public int gives(int leaver) {
        if (!isLeaver(leaver)) return NONE;
        return findGivers() ? givers.used[leaver] : NO_WAY;
    }

    private void findLack() {
        bed.weighLack(river, ways.weights);
        ways.find(river, MANY_LEAPS, 1);
    }

    private boolean findGivers() {
        findLack();
        return givers.settle(river, bed, ways);
    }

    public int needed() {
        if (!isWayOver(bed)) return 0;
        int bits = 0;
        for (int leaver = 0; leaver < river.leavers; leaver++) {
            bed.weighWithout(river, leaver, ways.weights);
            if (!ways.leadOver(river)) bits |= 1 << leaver;
        }
        return bits;
    }

    public int alone() {
        int bits = 0;
        for (int leaver = 0; leaver < river.leavers; leaver++) {
            bed.weighAlone(river, leaver, ways.weights);
            if (ways.leadOver(river)) bits |= 1 << leaver;
        }
        return bits;
    }

    public int breaks() {
        if (!isWayOver(bed)) return NO_WAY_NOW;
        trial.copyFrom(bed);
        for (int i = 0; i < MAX_BREAKS_DAYS; i++) {
            int day = trial.day;
            if (trial.passDay(river, 0, river.across) && !isWayOver(trial)) return day;
        }
        return NO_WAY;
    }

    public int fords() {
        if (river.isLeptAtOnce()) return NO_WAY;
        bed.weighSteps(river, ways.weights);
        return fordFinder.most(river, ways.weights);
    }

    private boolean isWayOver(Bed one) {
        one.weighSteps(river, ways.weights);
        return ways.leadOver(river);
    }

    // ---- what is told ----

    public int tell(int x, int y, int stones) {
        if (told >= MAX_TOLD || !river.has(x, y) || stones < 0 || stones > MAX_TOLD_STONES) return NONE;
        toldCells[told] = cellNumber(x, y);
        toldStones[told] = stones;
        told++;
        return told - 1;
    }

    public int forget() {
        int were = told;
        told = 0;
        return were;
    }

    public int fits(int leaver, int k, int n, int i) {
        if (!isLeaver(leaver) || !bed.mayThrow(river, leaver)) return NONE;
        if (k < 0 || k > told || n < 0 || n > MAX_FITS_DAYS || i < NONE) return NONE;
        int wrongRows = rowsWrongWithout(k, n);
        int found = 0;
        for (int y = 0; y < river.across; y++) {
            // What is thrown changes nothing in other rows.
            if ((wrongRows & ~(1 << y)) != 0) continue;
            for (int x = 0; x < river.along; x++) {
                if (!fitsAt(leaver, x, y, k, n)) continue;
                if (found == i) return cellName(cellNumber(x, y));
                found++;
            }
        }
        return i == NONE ? found : NONE;
    }

    /** The rows (bits) in which something KNOWN is not so behind n days, if nobody throws. */
    private int rowsWrongWithout(int k, int n) {
        trial.copyFrom(bed);
        trial.passDays(river, n, 0, river.across);
        int bits = 0;
        for (int y = 0; y < river.across; y++) {
            if (!isKnownSo(k, y)) bits |= 1 << y;
        }
        return bits;
    }

    private boolean fitsAt(int leaver, int x, int y, int k, int n) {
        if (!isKnownOf(k, y)) return true;
        trial.copyFrom(bed);
        trial.throwStone(river, leaver, x, y);
        trial.passDays(river, n, y, y + 1);
        return isKnownSo(k, y);
    }

    private boolean isKnownOf(int k, int y) {
        for (int i = 0; i < k && i < MAX_TOLD; i++) {
            if (toldCells[i] / STRIDE == y) return true;
        }
        return false;
    }

    private boolean isKnownSo(int k, int y) {
        for (int i = 0; i < k && i < MAX_TOLD; i++) {
            if (toldCells[i] / STRIDE == y && trial.heights[toldCells[i]] != toldStones[i]) return false;
        }
        return true;
    }

    /** The bytes that are fed. */
    private static final class Tape {
        private final byte[] bytes = new byte[MAX_TAPE];
        private int length;

        void put(int four) {
            for (int shift = 24; shift >= 0 && length < MAX_TAPE; shift -= 8) {
                bytes[length] = (byte) (four >>> shift);
                length++;
            }
        }

        int byteAt(int at) {
            return bytes[at] & 255;
        }
    }

    /** The TOKENS of a text, up to the first that is one too many, and its end behind them. */
    private static final class Tokens {
        private final int[] kinds = new int[MAX_TOKENS + 2];
        private final int[] starts = new int[MAX_TOKENS + 2];
        private final int[] sizes = new int[MAX_TOKENS + 2];
        private final int[] values = new int[MAX_TOKENS + 2];

        void scan(Tape tape) {
            int count = 0;
            int at = skip(tape, 0, BLANK);
            while (count <= MAX_TOKENS && at < tape.length) {
                int end = endOfToken(tape, at);
                put(count, kindOf(tape, at, end), at, end - at);
                if (kinds[count] == T_INT) values[count] = number(tape, at, end);
                count++;
                at = skip(tape, end, BLANK);
            }
            put(count, T_END, tape.length, 0);
        }

        private void put(int count, int kind, int start, int size) {
            kinds[count] = kind;
            starts[count] = start;
            sizes[count] = size;
            values[count] = 0;
        }

        private static int endOfToken(Tape tape, int start) {
            int sort = sortOf(tape.byteAt(start));
            return sort == OTHER ? start + 1 : skip(tape, start, sort);
        }

        private static int skip(Tape tape, int start, int sort) {
            int at = start;
            while (at < tape.length && sortOf(tape.byteAt(at)) == sort) at++;
            return at;
        }

        private static int sortOf(int sign) {
            if (sign == 9 || sign == 10 || sign == 13 || sign == 32) return BLANK;
            if (sign >= 'a' && sign <= 'z') return LETTER;
            if (sign >= '0' && sign <= '9') return DIGIT;
            return OTHER;
        }

        private static int kindOf(Tape tape, int start, int end) {
            int sign = tape.byteAt(start);
            switch (sortOf(sign)) {
                case LETTER: return wordKind(tape, start, end - start);
                case DIGIT: return end - start > MAX_DIGITS ? T_NO_TOKEN : T_INT;
                default: return SIGNS.indexOf((char) sign) >= 0 ? sign : T_NO_TOKEN;
            }
        }

        private static int wordKind(Tape tape, int start, int size) {
            for (int word = 0; word < WORD_COUNT; word++) {
                if (spells(tape, start, size, word)) return FIRST_WORD + word;
            }
            return size > MAX_NAME ? T_NO_TOKEN : T_NAME;
        }

        private static boolean spells(Tape tape, int start, int size, int word) {
            if (size > WORD_SIZE) return false;
            for (int i = 0; i < WORD_SIZE; i++) {
                int have = i < size ? tape.byteAt(start + i) : ' ';
                if (have != WORDS.charAt(word * WORD_SIZE + i)) return false;
            }
            return true;
        }

        private static int number(Tape tape, int start, int end) {
            int value = 0;
            for (int at = start; at < end; at++) value = value * 10 + tape.byteAt(at) - '0';
            return value;
        }
    }

    /**
     * Reads the TOKENS into a RIVER. After a fault nothing is taken any more, so that the first one stays; what
     * is TWICE or WRONG counts only if there is no such fault.
     */
    private static final class Reader {
        private final Tokens tokens = new Tokens();
        private int at;
        private int fault;
        private int place;
        private int laterFault;
        private int laterPlace;
        private int depths;
        private final int[] nameTokens = new int[MAX_LEAVERS];

        /** The number of the fault, 0 if there is none. */
        int readText(Tape tape, River river) {
            tokens.scan(tape);
            river.clear();
            at = 0;
            fault = 0;
            laterFault = 0;
            depths = 0;
            for (int n = 0; n <= MAX_TOKENS && fault == 0 && tokens.kinds[at] != T_END; n++) {
                switch (tokens.kinds[at]) {
                    case W_RIVER: readRiver(river); break;
                    case W_DEPTH: readDepth(river); break;
                    case W_FLOW: readFlow(river); break;
                    case W_LEAP: readLeap(river); break;
                    case W_LEAVER: readLeaver(tape, river); break;
                    case W_FLOOD: readFlood(river); break;
                    case W_CARRY: readLaw(river.carry); break;
                    case W_SLIP: readLaw(river.slip); break;
                    default: fail(SYNTAX); break;
                }
            }
            return fault != 0 ? fault : laterFault;
        }

        int faultPlace() {
            return fault != 0 ? place : laterPlace;
        }

        private void readRiver(River river) {
            take(W_RIVER);
            river.along = takeInt(1, STRIDE);
            river.across = takeInt(1, ROWS);
            take(';');
        }

        private void readDepth(River river) {
            if (depths >= MAX_DEPTHS) fail(ROOM);
            depths++;
            take(W_DEPTH);
            int x = takeInt(0, STRIDE - 1);
            int y = takeInt(0, ROWS - 1);
            river.depths[cellNumber(x, y)] = takeInt(0, MAX_DEPTH);
            take(';');
        }

        private void readFlow(River river) {
            take(W_FLOW);
            int y = takeInt(0, ROWS - 1);
            river.flows[y] = takeInt(0, MAX_FLOW);
            take(';');
        }

        private void readLeap(River river) {
            take(W_LEAP);
            river.leap = takeInt(1, MAX_LEAP);
            take(';');
        }

        private void readLeaver(Tape tape, River river) {
            int leaver = river.leavers;
            if (leaver >= MAX_LEAVERS) {
                fail(ROOM);
                return;
            }
            take(W_LEAVER);
            takeName(tape, leaver);
            river.firstDays[leaver] = takeInt(0, MAX_FIRST_DAY);
            river.sizes[leaver] = takeInt(1, MAX_SIZE);
            river.stones[leaver] = takeInt(1, MAX_EACH);
            river.griefs[leaver] = takeInt(0, MAX_GRIEF);
            take(';');
            river.leavers++;
        }

        private void takeName(Tape tape, int leaver) {
            int token = at;
            nameTokens[leaver] = token;
            take(T_NAME);
            if (fault != 0) return;
            for (int other = 0; other < leaver; other++) {
                if (isSameName(tape, token, nameTokens[other])) failLater(TWICE, tokens.starts[token]);
            }
        }

        private boolean isSameName(Tape tape, int one, int other) {
            if (tokens.sizes[one] != tokens.sizes[other]) return false;
            for (int i = 0; i < tokens.sizes[one]; i++) {
                if (tape.byteAt(tokens.starts[one] + i) != tape.byteAt(tokens.starts[other] + i)) return false;
            }
            return true;
        }

        private void readFlood(River river) {
            int flood = river.floods;
            if (flood >= MAX_FLOODS) {
                fail(ROOM);
                return;
            }
            take(W_FLOOD);
            river.floodDays[flood] = takeInt(0, MAX_FLOOD_DAY);
            river.forces[flood] = takeInt(1, MAX_FORCE);
            take(';');
            river.floods++;
        }

        private void readLaw(Law law) {
            law.clear();
            take(tokens.kinds[at]);
            take('=');
            for (int ifs = 0; ifs <= MAX_IFS && fault == 0 && tokens.kinds[at] == W_IF; ifs++) {
                if (ifs == MAX_IFS) fail(ROOM);
                take(W_IF);
                readSum(law, 0);
                take('<');
                readSum(law, 0);
                take(W_THEN);
                int unless = law.put(UNLESS, 0);
                readSum(law, 0);
                take(W_ELSE);
                law.put(END, 0);
                law.aimAtEnd(unless);
            }
            readSum(law, 0);
            law.put(END, 0);
            take(';');
        }

        private void readSum(Law law, int brackets) {
            readProduct(law, brackets);
            for (int n = 0; n <= MAX_TOKENS && fault == 0 && isEither('+', '-'); n++) {
                int op = tokens.kinds[at] == '+' ? ADD : TAKE;
                take(tokens.kinds[at]);
                readProduct(law, brackets);
                law.put(op, 0);
            }
        }

        private void readProduct(Law law, int brackets) {
            readUnit(law, brackets);
            for (int n = 0; n <= MAX_TOKENS && fault == 0 && isEither('*', '/'); n++) {
                int op = tokens.kinds[at] == '*' ? TIMES : DIVIDE;
                take(tokens.kinds[at]);
                readUnit(law, brackets);
                law.put(op, 0);
            }
        }

        private void readUnit(Law law, int brackets) {
            if (fault != 0) return;
            int kind = tokens.kinds[at];
            if (kind == T_INT) {
                law.put(PUSH, tokens.values[at]);
                take(T_INT);
            } else if (kind >= W_STONES && kind <= W_ALONG) {
                law.put(LOOK, kind - W_STONES);
                take(kind);
            } else if (kind != '(') {
                fail(SYNTAX);
            } else if (brackets >= MAX_BRACKETS) {
                fail(ROOM);
            } else {
                take('(');
                readSum(law, brackets + 1);
                take(')');
            }
        }

        private boolean isEither(int one, int other) {
            return tokens.kinds[at] == one || tokens.kinds[at] == other;
        }

        private void take(int kind) {
            if (tokens.kinds[at] != kind) fail(SYNTAX);
            else if (at >= MAX_TOKENS) fail(ROOM);
            if (fault == 0) at++;
        }

        /** In place of an INT that is not as told stands the least one, so that the reading can go on. */
        private int takeInt(int least, int most) {
            int value = tokens.values[at];
            int start = tokens.starts[at];
            take(T_INT);
            if (fault != 0) return least;
            if (value >= least && value <= most) return value;
            failLater(WRONG, start);
            return least;
        }

        private void fail(int what) {
            if (fault != 0) return;
            fault = what;
            place = tokens.starts[at];
        }

        private void failLater(int what, int start) {
            if (laterFault != 0) return;
            laterFault = what;
            laterPlace = start;
        }
    }

    /** A LAW: its steps, which only ever go on to later ones. */
    private static final class Law {
        private final int[] ops = new int[MAX_TOKENS + 2];
        private final int[] args = new int[MAX_TOKENS + 2];
        private final int[] stack = new int[STACK];
        private final int[] seen = new int[VARS];
        private int size;

        void clear() {
            size = 0;
        }

        int put(int op, int arg) {
            if (size >= ops.length) return 0;
            ops[size] = op;
            args[size] = arg;
            size++;
            return size - 1;
        }

        void aimAtEnd(int at) {
            if (at >= 0 && at < size) args[at] = size;
        }

        int tells(int stones, int deep, int force, int moss, int across, int along) {
            seen[0] = stones;
            seen[1] = deep;
            seen[2] = force;
            seen[3] = moss;
            seen[4] = across;
            seen[5] = along;
            int top = 0;
            int next = 0;
            for (int turn = 0; turn < size && next < size; turn++) {
                int op = ops[next];
                int arg = args[next];
                next++;
                if (op == END) return top > 0 ? stack[top - 1] : 0;
                if (op == PUSH || op == LOOK) {
                    if (top >= STACK) return 0;
                    stack[top] = op == PUSH ? arg : seenAt(arg);
                    top++;
                    continue;
                }
                if (top < 2) return 0;
                int left = stack[top - 2];
                int right = stack[top - 1];
                if (op == DIVIDE && right == 0) return 0;
                top -= 2;
                if (op == UNLESS) {
                    if (left >= right) next = arg;
                } else {
                    stack[top] = joined(op, left, right);
                    top++;
                }
            }
            return 0;
        }

        private int seenAt(int which) {
            return which >= 0 && which < VARS ? seen[which] : 0;
        }

        private static int joined(int op, int left, int right) {
            switch (op) {
                case ADD: return left + right;
                case TAKE: return left - right;
                case TIMES: return left * right;
                default: return right == 0 ? 0 : left / right;
            }
        }
    }

    /** What a text tells. */
    private static final class River {
        private int along;
        private int across;
        private int leap;
        private final int[] depths = new int[CELLS];
        private final int[] flows = new int[ROWS];
        private int leavers;
        private final int[] firstDays = new int[MAX_LEAVERS];
        private final int[] sizes = new int[MAX_LEAVERS];
        private final int[] stones = new int[MAX_LEAVERS];
        private final int[] griefs = new int[MAX_LEAVERS];
        private int floods;
        private final int[] floodDays = new int[MAX_FLOODS];
        private final int[] forces = new int[MAX_FLOODS];
        private final Law carry = new Law();
        private final Law slip = new Law();

        void clear() {
            along = 8;
            across = 4;
            leap = 1;
            Arrays.fill(depths, 1);
            Arrays.fill(flows, 0);
            leavers = 0;
            floods = 0;
            carry.clear();
            slip.clear();
        }

        boolean has(int x, int y) {
            return x >= 0 && x < along && y >= 0 && y < across;
        }

        int drift(int leaver, int y) {
            int size = sizes[leaver];
            return size <= 0 ? 0 : flows[y] / size;
        }

        boolean isLeptAtOnce() {
            return across < leap;
        }

        boolean isNearEnough(int at) {
            return at / STRIDE + 1 <= leap;
        }

        boolean isFarEnough(int at) {
            return across - at / STRIDE <= leap;
        }

        int countLeaps() {
            return Math.min(2 * leap * (leap + 1), LEAP_X.length);
        }

        /** The CELL that the which-th of countLeaps() goes to, or NONE beyond the RIVER. */
        int leapFrom(int at, int which) {
            int x = at % STRIDE + LEAP_X[which];
            int y = at / STRIDE + LEAP_Y[which];
            return has(x, y) ? cellNumber(x, y) : NONE;
        }

        boolean isWithinLeap(int at, int other) {
            int x = Math.abs(at % STRIDE - other % STRIDE);
            int y = Math.abs(at / STRIDE - other / STRIDE);
            return x + y <= leap;
        }
    }

    /**
     * STONES, MOSS and the day. A STONE's number is its LEAVER's times MAX_EACH and which of his it is; each knows
     * the one under it. Of MOSS the day is kept since which it grows.
     */
    private static final class Bed {
        private int day;
        private final int[] heights = new int[CELLS];
        private final int[] tops = new int[CELLS];
        private final int[] mossSince = new int[CELLS];
        private final int[] under = new int[MAX_STONES];
        private final int[] thrown = new int[MAX_LEAVERS];
        private final int[] lost = new int[MAX_LEAVERS];

        void clear() {
            day = 0;
            Arrays.fill(heights, 0);
            Arrays.fill(tops, NONE);
            Arrays.fill(mossSince, 0);
            Arrays.fill(under, NONE);
            Arrays.fill(thrown, 0);
            Arrays.fill(lost, 0);
        }

        void copyFrom(Bed other) {
            day = other.day;
            System.arraycopy(other.heights, 0, heights, 0, CELLS);
            System.arraycopy(other.tops, 0, tops, 0, CELLS);
            System.arraycopy(other.mossSince, 0, mossSince, 0, CELLS);
            System.arraycopy(other.under, 0, under, 0, MAX_STONES);
            System.arraycopy(other.thrown, 0, thrown, 0, MAX_LEAVERS);
            System.arraycopy(other.lost, 0, lost, 0, MAX_LEAVERS);
        }

        int left(River river, int leaver) {
            return river.stones[leaver] - thrown[leaver];
        }

        boolean mayThrow(River river, int leaver) {
            return left(river, leaver) > 0 && day >= river.firstDays[leaver];
        }

        /** Throws one for a LEAVER who has one left; the CELL on which it lies, or LOST. */
        int throwStone(River river, int leaver, int x, int y) {
            if (left(river, leaver) <= 0 || thrown[leaver] >= MAX_EACH) return LOST;
            int stone = leaver * MAX_EACH + thrown[leaver];
            thrown[leaver]++;
            int to = x + river.drift(leaver, y);
            if (!river.has(to, y)) {
                lost[leaver]++;
                return LOST;
            }
            int at = cellNumber(to, y);
            layOn(at, stone, stone, 1, day);
            return at;
        }

        /** The floods come by in the rows from one up to another alone. */
        void passDays(River river, int n, int from, int to) {
            for (int i = 0; i < n && i < MAX_DAYS; i++) passDay(river, from, to);
        }

        /** True if a flood came by. */
        boolean passDay(River river, int from, int to) {
            boolean came = false;
            for (int i = 0; i < river.floods && i < MAX_FLOODS; i++) {
                if (river.floodDays[i] != day) continue;
                for (int y = from; y < to; y++) floodRow(river, river.forces[i], y);
                came = true;
            }
            day++;
            return came;
        }

        private void floodRow(River river, int force, int y) {
            for (int x = river.along - 1; x >= 0; x--) {
                int at = cellNumber(x, y);
                int height = heights[at];
                if (height == 0) continue;
                // MOSS grows before the floods of the day come.
                int moss = mossOn(at, day + 1);
                int told = river.carry.tells(height, river.depths[at], force, moss, y, x);
                int going = Math.max(0, Math.min(told, height));
                if (going > 0) carryOff(at, going, river.has(x + force, y) ? at + force : LOST);
            }
        }

        private void carryOff(int at, int going, int to) {
            int highest = tops[at];
            int lowest = highest;
            for (int i = 1; i < going && lowest >= 0; i++) lowest = under[lowest];
            if (lowest < 0) return;
            tops[at] = under[lowest];
            heights[at] -= going;
            mossSince[at] = day + 1;
            if (to == LOST) lose(highest, going);
            else layOn(to, highest, lowest, going, day + 1);
        }

        private void layOn(int at, int highest, int lowest, int coming, int since) {
            under[lowest] = tops[at];
            tops[at] = highest;
            heights[at] += coming;
            mossSince[at] = since;
        }

        private void lose(int highest, int going) {
            int stone = highest;
            for (int i = 0; i < going && stone >= 0; i++) {
                lost[stone / MAX_EACH]++;
                stone = under[stone];
            }
        }

        int mossAt(int at) {
            return mossOn(at, day);
        }

        private int mossOn(int at, int when) {
            return heights[at] == 0 ? 0 : Math.min(MAX_MOSS, when - mossSince[at]);
        }

        boolean isStep(River river, int at) {
            return heights[at] >= river.depths[at];
        }

        int slippery(River river, int at) {
            int told = river.slip.tells(heights[at], river.depths[at], 0, mossAt(at), at / STRIDE, at % STRIDE);
            return Math.max(0, Math.min(told, 100));
        }

        /** Whose STONE is the i-th from the lowest, of a CELL that has so many. */
        int ownerAt(int at, int i) {
            int stone = tops[at];
            for (int above = heights[at] - 1; above > i && stone >= 0; above--) stone = under[stone];
            return stone < 0 ? NONE : stone / MAX_EACH;
        }

        private int countOf(int leaver, int at) {
            int sum = 0;
            int stone = tops[at];
            for (int i = 0; i < heights[at] && stone >= 0; i++) {
                if (stone / MAX_EACH == leaver) sum++;
                stone = under[stone];
            }
            return sum;
        }

        int countLying() {
            int sum = 0;
            for (int leaver = 0; leaver < MAX_LEAVERS; leaver++) sum += thrown[leaver] - lost[leaver];
            return sum;
        }

        int countLost() {
            int sum = 0;
            for (int leaver = 0; leaver < MAX_LEAVERS; leaver++) sum += lost[leaver];
            return sum;
        }

        int countSteps(River river) {
            int sum = 0;
            for (int at = 0; at < CELLS; at++) {
                if (river.has(at % STRIDE, at / STRIDE) && isStep(river, at)) sum++;
            }
            return sum;
        }

        // What follows weighs the CELLS for a way: NONE where it can't go.

        void weighSlippery(River river, int[] weights) {
            for (int at = 0; at < CELLS; at++) {
                boolean goes = river.has(at % STRIDE, at / STRIDE) && isStep(river, at);
                weights[at] = goes ? slippery(river, at) : NONE;
            }
        }

        void weighLack(River river, int[] weights) {
            for (int at = 0; at < CELLS; at++) {
                boolean goes = river.has(at % STRIDE, at / STRIDE);
                weights[at] = goes ? Math.max(0, river.depths[at] - heights[at]) : NONE;
            }
        }

        void weighSteps(River river, int[] weights) {
            for (int at = 0; at < CELLS; at++) weighHeight(river, at, heights[at], weights);
        }

        void weighWithout(River river, int leaver, int[] weights) {
            for (int at = 0; at < CELLS; at++) {
                weighHeight(river, at, heights[at] - countOf(leaver, at), weights);
            }
        }

        void weighAlone(River river, int leaver, int[] weights) {
            for (int at = 0; at < CELLS; at++) weighHeight(river, at, countOf(leaver, at), weights);
        }

        private static void weighHeight(River river, int at, int height, int[] weights) {
            boolean goes = river.has(at % STRIDE, at / STRIDE) && height >= river.depths[at];
            weights[at] = goes ? 0 : NONE;
        }
    }

    /** What was before the last things done: of more than can be undone the oldest one is forgotten. */
    private static final class Past {
        private final Bed[] beds = new Bed[MAX_UNDO];
        private int next;
        private int size;

        Past() {
            for (int i = 0; i < MAX_UNDO; i++) beds[i] = new Bed();
        }

        void clear() {
            size = 0;
        }

        void keep(Bed bed) {
            beds[next].copyFrom(bed);
            next = (next + 1) % MAX_UNDO;
            if (size < MAX_UNDO) size++;
        }

        boolean bringBack(Bed bed) {
            if (size == 0) return false;
            next = (next + MAX_UNDO - 1) % MAX_UNDO;
            size--;
            bed.copyFrom(beds[next]);
            return true;
        }
    }

    /** The cheapest way over the CELLS that have a weight, and its line of CELLS. */
    private static final class Ways {
        private final int[] weights = new int[CELLS];
        private final int[] line = new int[CELLS];
        private int length;
        // What the way from a CELL to the far bank costs, with the CELL itself.
        private final int[] costs = new int[CELLS];
        private final boolean[] done = new boolean[CELLS];
        private final int[] queue = new int[CELLS];

        /** A CELL costs its weight times perWeight, a LEAP perLeap; false if there is no way. */
        boolean find(River river, int perWeight, int perLeap) {
            length = 0;
            weighCosts(river, perWeight, perLeap);
            int best = river.isLeptAtOnce() ? perLeap : NEVER;
            for (int at = 0; at < CELLS; at++) {
                if (costs[at] < NEVER && river.isNearEnough(at)) best = Math.min(best, perLeap + costs[at]);
            }
            if (best >= NEVER) return false;
            drawLine(river, best, perWeight, perLeap);
            return true;
        }

        int leaps() {
            return length + 1;
        }

        int sum() {
            int sum = 0;
            for (int i = 0; i < length; i++) sum += weights[line[i]];
            return sum;
        }

        private void weighCosts(River river, int perWeight, int perLeap) {
            for (int at = 0; at < CELLS; at++) {
                boolean ends = weights[at] >= 0 && river.isFarEnough(at);
                costs[at] = ends ? perWeight * weights[at] + perLeap : NEVER;
                done[at] = false;
            }
            int leaps = river.countLeaps();
            for (int n = 0; n < CELLS; n++) {
                int at = cheapest();
                if (at == NONE) return;
                done[at] = true;
                for (int i = 0; i < leaps; i++) {
                    int from = river.leapFrom(at, i);
                    if (from == NONE || weights[from] < 0) continue;
                    costs[from] = Math.min(costs[from], perWeight * weights[from] + perLeap + costs[at]);
                }
            }
        }

        private int cheapest() {
            int best = NONE;
            int least = NEVER;
            for (int at = 0; at < CELLS; at++) {
                if (done[at] || costs[at] >= least) continue;
                best = at;
                least = costs[at];
            }
            return best;
        }

        /** Of alike ways the first, CELL by CELL: at each the first from which the rest costs what is left. */
        private void drawLine(River river, int best, int perWeight, int perLeap) {
            int from = NONE;
            int rest = best;
            for (int n = 0; n < CELLS && rest > perLeap; n++) {
                int to = firstWithCost(river, from, rest - perLeap);
                if (to == NONE) return;
                line[length] = to;
                length++;
                rest = costs[to] - perWeight * weights[to];
                from = to;
            }
        }

        private int firstWithCost(River river, int from, int cost) {
            for (int at = 0; at < CELLS; at++) {
                if (weights[at] < 0 || costs[at] != cost) continue;
                if (from == NONE ? river.isNearEnough(at) : river.isWithinLeap(from, at)) return at;
            }
            return NONE;
        }

        /** True if there is a way at all. */
        boolean leadOver(River river) {
            if (river.isLeptAtOnce()) return true;
            int leaps = river.countLeaps();
            int tail = 0;
            for (int at = 0; at < CELLS; at++) {
                done[at] = weights[at] >= 0 && river.isNearEnough(at);
                if (!done[at]) continue;
                queue[tail] = at;
                tail++;
            }
            for (int head = 0; head < tail && head < CELLS; head++) {
                int at = queue[head];
                if (river.isFarEnough(at)) return true;
                for (int i = 0; i < leaps; i++) {
                    int to = river.leapFrom(at, i);
                    if (to == NONE || weights[to] < 0 || done[to]) continue;
                    done[to] = true;
                    queue[tail] = to;
                    tail++;
                }
            }
            return false;
        }
    }

    /**
     * The most ways that have no STEP in common: ways are added one by one, each may turn aside those that are
     * there. A STEP has two places, the one at which a way comes to it (its number) and the one from which it
     * goes on (CELLS more).
     */
    private static final class Fords {
        private final int[] comesFrom = new int[CELLS];
        private final int[] goesTo = new int[CELLS];
        private final int[] reachedFrom = new int[2 * CELLS];
        private final int[] queue = new int[2 * CELLS];
        private int tail;

        int most(River river, int[] weights) {
            Arrays.fill(comesFrom, NOTHING);
            Arrays.fill(goesTo, NOTHING);
            int found = 0;
            for (int n = 0; n < CELLS; n++) {
                int last = seek(river, weights);
                if (last == NONE) break;
                addWay(last);
                found++;
            }
            return found;
        }

        /** The STEP from which one more way gets to the far bank, or NONE. */
        private int seek(River river, int[] weights) {
            Arrays.fill(reachedFrom, NOTHING);
            tail = 0;
            for (int at = 0; at < CELLS; at++) {
                boolean begins = weights[at] >= 0 && river.isNearEnough(at) && comesFrom[at] != NEAR_BANK;
                if (begins) reach(at, NEAR_BANK);
            }
            for (int head = 0; head < tail && head < 2 * CELLS; head++) {
                int spot = queue[head];
                if (spot < CELLS) {
                    comeTo(spot);
                } else {
                    int at = spot - CELLS;
                    if (river.isFarEnough(at) && goesTo[at] != FAR_BANK) return at;
                    goOnFrom(river, weights, at);
                }
            }
            return NONE;
        }

        private void comeTo(int at) {
            if (goesTo[at] == NOTHING) reach(CELLS + at, at);
            else if (comesFrom[at] >= 0) reach(CELLS + comesFrom[at], at);
        }

        private void goOnFrom(River river, int[] weights, int at) {
            if (goesTo[at] != NOTHING) reach(at, CELLS + at);
            int leaps = river.countLeaps();
            for (int i = 0; i < leaps; i++) {
                int to = river.leapFrom(at, i);
                if (to != NONE && weights[to] >= 0 && goesTo[at] != to) reach(to, CELLS + at);
            }
        }

        private void reach(int spot, int from) {
            if (reachedFrom[spot] != NOTHING) return;
            reachedFrom[spot] = from;
            queue[tail] = spot;
            tail++;
        }

        private void addWay(int last) {
            goesTo[last] = FAR_BANK;
            int spot = CELLS + last;
            for (int n = 0; n < 2 * CELLS; n++) {
                int from = reachedFrom[spot];
                if (from < 0) break;
                if (spot < CELLS) leadInto(spot, from - CELLS);
                spot = from;
            }
            comesFrom[spot] = NEAR_BANK;
        }

        /** From itself: the way that went over this STEP does so no more. */
        private void leadInto(int at, int from) {
            if (from == at) {
                comesFrom[at] = NOTHING;
                goesTo[at] = NOTHING;
            } else {
                comesFrom[at] = from;
                goesTo[from] = at;
            }
        }
    }

    /**
     * Who gives the STONES that THE LINE needs. At first they are given one by one at the least sum, where others
     * may have to pass on theirs; then each STONE, from the first on, goes to the first LEAVER with whom the sum
     * stays what it is.
     */
    private static final class Givers {
        private static final int UNSEEN = -3;
        private static final int HEAD = -2;

        private int leavers;
        private final int[] griefs = new int[MAX_LEAVERS];
        private final int[][] drifts = new int[MAX_LEAVERS][ROWS];
        // The STONES that are needed: where each has to lie, and who gives it.
        private final int[] cells = new int[MAX_STONES];
        private final int[] givers = new int[MAX_STONES];
        private int size;
        private final int[] left = new int[MAX_LEAVERS];
        private final int[] used = new int[MAX_LEAVERS];
        // Towards whom and which STONE a LEAVER would take over, so that somebody gets free; and the other way.
        private final int[] takesFrom = new int[MAX_LEAVERS];
        private final int[] takes = new int[MAX_LEAVERS];
        private final int[] handsTo = new int[MAX_LEAVERS];
        private final int[] hands = new int[MAX_LEAVERS];
        private final int[] queue = new int[MAX_LEAVERS];

        /** False if it can't be. */
        boolean settle(River river, Bed bed, Ways ways) {
            if (ways.sum() > MAX_STONES) return false;
            leavers = river.leavers;
            for (int leaver = 0; leaver < leavers; leaver++) {
                left[leaver] = bed.mayThrow(river, leaver) ? bed.left(river, leaver) : 0;
                used[leaver] = 0;
                griefs[leaver] = river.griefs[leaver];
                for (int y = 0; y < ROWS; y++) drifts[leaver][y] = river.drift(leaver, y);
            }
            listNeeds(ways);
            for (int stone = 0; stone < size; stone++) {
                if (!give(stone)) return false;
            }
            for (int stone = 0; stone < size; stone++) giveByFirst(stone);
            return true;
        }

        int sum() {
            int sum = 0;
            for (int leaver = 0; leaver < leavers; leaver++) sum += used[leaver] * griefs[leaver];
            return sum;
        }

        private void listNeeds(Ways ways) {
            size = 0;
            for (int i = 0; i < ways.length; i++) {
                int at = ways.line[i];
                for (int n = 0; n < ways.weights[at] && size < MAX_STONES; n++) {
                    cells[size] = at;
                    givers[size] = NONE;
                    size++;
                }
            }
        }

        private boolean canGive(int stone, int leaver) {
            int at = cells[stone];
            return left[leaver] > 0 && at % STRIDE >= drifts[leaver][at / STRIDE];
        }

        private boolean give(int stone) {
            Arrays.fill(takesFrom, UNSEEN);
            int tail = 0;
            for (int leaver = 0; leaver < leavers; leaver++) {
                if (!canGive(stone, leaver)) continue;
                takesFrom[leaver] = HEAD;
                queue[tail] = leaver;
                tail++;
            }
            spread(tail, 0, stone);
            int last = leastFree();
            if (last == NONE) return false;
            givers[stone] = passOn(last);
            used[last]++;
            return true;
        }

        private boolean isFree(int leaver) {
            return takesFrom[leaver] != UNSEEN && used[leaver] < left[leaver];
        }

        private int leastFree() {
            int best = NONE;
            for (int leaver = 0; leaver < leavers; leaver++) {
                if (!isFree(leaver)) continue;
                if (best == NONE || griefs[leaver] < griefs[best]) best = leaver;
            }
            return best;
        }

        /** Who can be reached from those in the queue, if the STONES from one up to another may be passed on. */
        private void spread(int seen, int from, int to) {
            int tail = seen;
            for (int head = 0; head < tail && head < MAX_LEAVERS; head++) {
                for (int stone = from; stone < to; stone++) {
                    if (givers[stone] != queue[head]) continue;
                    for (int leaver = 0; leaver < leavers; leaver++) {
                        if (takesFrom[leaver] != UNSEEN || !canGive(stone, leaver)) continue;
                        takesFrom[leaver] = queue[head];
                        takes[leaver] = stone;
                        queue[tail] = leaver;
                        tail++;
                    }
                }
            }
        }

        /** From whom this LEAVER can be reached likewise. */
        private void spreadBack(int leaver, int from, int to) {
            Arrays.fill(handsTo, UNSEEN);
            handsTo[leaver] = HEAD;
            queue[0] = leaver;
            int tail = 1;
            for (int head = 0; head < tail && head < MAX_LEAVERS; head++) {
                for (int stone = from; stone < to; stone++) {
                    int giver = givers[stone];
                    if (giver < 0 || handsTo[giver] != UNSEEN || !canGive(stone, queue[head])) continue;
                    handsTo[giver] = queue[head];
                    hands[giver] = stone;
                    queue[tail] = giver;
                    tail++;
                }
            }
        }

        /** Each takes over what leads to the last one; who is free for one more then. */
        private int passOn(int last) {
            int leaver = last;
            for (int n = 0; n < MAX_LEAVERS && takesFrom[leaver] >= 0; n++) {
                givers[takes[leaver]] = leaver;
                leaver = takesFrom[leaver];
            }
            return leaver;
        }

        private void handOn(int first) {
            int leaver = first;
            for (int n = 0; n < MAX_LEAVERS && handsTo[leaver] >= 0; n++) {
                givers[hands[leaver]] = handsTo[leaver];
                leaver = handsTo[leaver];
            }
        }

        private void giveByFirst(int stone) {
            int giver = givers[stone];
            for (int leaver = 0; leaver < giver; leaver++) {
                if (canGive(stone, leaver) && giveInstead(stone, giver, leaver)) return;
            }
        }

        /** The STONES before this one stay where they are, and the sum what it is; false if that can't be. */
        private boolean giveInstead(int stone, int giver, int other) {
            Arrays.fill(takesFrom, UNSEEN);
            takesFrom[other] = HEAD;
            queue[0] = other;
            spread(1, stone + 1, size);
            if (takesFrom[giver] != UNSEEN) {
                passOn(giver);
                givers[stone] = other;
                return true;
            }
            spreadBack(giver, stone + 1, size);
            for (int more = 0; more < leavers; more++) {
                if (!isFree(more)) continue;
                for (int less = 0; less < leavers; less++) {
                    if (handsTo[less] == UNSEEN || griefs[less] != griefs[more]) continue;
                    passOn(more);
                    handOn(less);
                    givers[stone] = other;
                    used[more]++;
                    used[less]--;
                    return true;
                }
            }
            return false;
        }
    }
}
