import java.util.Arrays;

/**
 * A draft on one sheet: its marks, the orders in which they can have been made, the texts that it had, the fair copies
 * taken from it, and the words that may not stand side by side in it. ../shared/DOC.md has the promises.
 */
public final class CrossedSheets {
    public static final int NONE = -1, UNKNOWN = -1001, OUTSIDE = -1002, NOT = -1003, FULL = -1004;

    private static final int WORDS = 100;
    private static final int MARKS = 10;
    private static final int INKS = 4;
    private static final int SETS = 1024;
    private static final int BYTES = 400;
    private static final int LONGEST = 40;
    private static final int DEEPEST = 8;
    private static final int MOST_COPIES = 4;
    private static final int MOST_PAIRS = 20;
    private static final int FAULTY = -10;

    /** The draft lies on the shelf of the copies, behind the last of them. */
    private static final int DRAFT = MOST_COPIES;

    private final Reader reader;
    private final Must must;
    private final Texts texts;
    private final Bars bars;
    private final Orders all;
    private final Sessions sessions;
    private final Views views;
    private final Shelf taken;
    private final Copies copies;
    private final Distance distance;
    private Sheet current;
    private Sheet spare;
    private int faultPlace;

    public CrossedSheets() {
        long[] room = new long[INKS * SETS];
        current = new Sheet();
        spare = new Sheet();
        reader = new Reader(spare);
        must = new Must(current);
        texts = new Texts(current);
        bars = new Bars();
        all = new Orders(must, texts, bars, room);
        sessions = new Sessions(must, texts, bars, room);
        views = new Views(must, texts, room);
        taken = new Shelf(MOST_COPIES + 1);
        distance = new Distance();
        copies = new Copies(must, texts, taken, distance, room);
        faultPlace = NONE;
    }

    // ---- the sheet

    public int feed(int n, long bytes) {
        if (n < 1 || n > 8) {
            return OUTSIDE;
        }
        if (reader.size + n > BYTES) {
            return FULL;
        }
        for (int k = n - 1; k >= 0; k--) {
            reader.hear((int) (bytes >>> (8 * k)) & 255);
        }
        return reader.size;
    }

    public int sheet() {
        int found = reader.readInto(spare);
        faultPlace = reader.faultAt;
        if (found != 0) {
            return FAULTY - found;
        }
        Sheet old = current;
        current = spare;
        spare = old;
        must.startOn(current);
        texts.startOn(current);
        return current.marks;
    }

    public int fault() {
        return faultPlace;
    }

    public int print(int i) {
        if (i == NONE) {
            return current.printedSize;
        }
        return i < 0 || i >= current.printedSize || i >= BYTES ? NONE : current.printed[i];
    }

    public int mark(int m, int what) {
        if (!must.hasMark(m)) {
            return UNKNOWN;
        }
        switch (what) {
            case 0:
                return current.kind[m];
            case 1:
                return must.inkOf[m];
            case 2:
                return must.before[m];
            case 3:
                return must.behind[m];
            case 4:
                return current.inside[m];
            case 5:
                return current.deep[m];
            default:
                return OUTSIDE;
        }
    }

    public int ink(int m, int i) {
        if (!must.hasMark(m) || !isInk(i)) {
            return UNKNOWN;
        }
        int was = must.inkOf[m];
        must.inkOf[m] = i;
        if (!must.settle()) {
            must.inkOf[m] = was;
            return NOT;
        }
        return was;
    }

    public int earlier(int a, int b, boolean is) {
        if (!isInk(a) || !isInk(b) || a == b) {
            return UNKNOWN;
        }
        int were = must.earlierThan[a];
        must.earlierThan[a] = is ? were | 1 << b : were & ~(1 << b);
        if (!must.settle()) {
            must.earlierThan[a] = were;
            return NOT;
        }
        return were >> b & 1;
    }

    public int count(int what) {
        switch (what) {
            case 0:
                return current.marks;
            case 1:
                return current.words;
            case 2:
                return reader.size;
            case 3:
                return taken.sizeOf(DRAFT);
            case 4:
                return copies.number;
            case 5:
                return bars.pairs;
            case 6:
                return must.inksInUse();
            case 7:
                return sessions.fewest();
            default:
                return OUTSIDE;
        }
    }

    // ---- orders

    public int good(int i) {
        return i == NONE ? must.goodCount() : must.goodAt(i);
    }

    public int next(int set) {
        int refusal = must.refuse(set);
        return refusal != 0 ? refusal : must.following(set);
    }

    public long orders() {
        return all.number();
    }

    public int order(long i, int j) {
        return i < 0 ? OUTSIDE : all.markAt(i, j);
    }

    public long ahead(int m, int n) {
        if (!must.hasMark(m) || !must.hasMark(n) || m == n) {
            return UNKNOWN;
        }
        return all.numberWith(m, n);
    }

    public int place(int m, int what) {
        if (!must.hasMark(m)) {
            return UNKNOWN;
        }
        if (what == 0) {
            return Integer.bitCount(must.before[m]);
        }
        return what == 1 ? current.marks - 1 - Integer.bitCount(must.behind[m]) : OUTSIDE;
    }

    public int session(int j) {
        return sessions.markAt(j);
    }

    // ---- texts

    public int text(int set, int i) {
        int refusal = must.refuse(set);
        return refusal != 0 ? refusal : wordOrSize(set, i);
    }

    public int view(int i) {
        return i == NONE ? views.number() : views.leastSet(i);
    }

    public int word(int w, int what) {
        if (!isWord(w)) {
            return OUTSIDE;
        }
        switch (what) {
            case 0:
                return texts.stands(w, 0) ? 1 : 0;
            case 1:
                return texts.stands(w, must.full()) ? 1 : 0;
            case 2:
                return fewestMarks(w);
            case 3:
                return mostMarks(w);
            case 4:
                return goodSetsWith(w);
            default:
                return OUTSIDE;
        }
    }

    public int idle() {
        int found = 0;
        for (int m = 0; m < current.marks; m++) {
            if (neverChanges(m)) {
                found |= 1 << m;
            }
        }
        return found;
    }

    public int apart(int a, int b) {
        if (!must.hasBits(a) || !must.hasBits(b)) {
            return UNKNOWN;
        }
        if (!must.isGood(a) || !must.isGood(b)) {
            return NOT;
        }
        return distance.between(texts.with(a), a, texts.with(b), b);
    }

    public int without(int m, int i) {
        if (!must.hasMark(m)) {
            return UNKNOWN;
        }
        return wordOrSize(must.full() & ~(must.behind[m] | 1 << m), i);
    }

    // ---- copies

    public int write(int w) {
        if (!isWord(w)) {
            return OUTSIDE;
        }
        if (taken.sizeOf(DRAFT) >= LONGEST) {
            return FULL;
        }
        taken.put(DRAFT, w);
        return taken.sizeOf(DRAFT);
    }

    public int see(int set) {
        int refusal = must.refuse(set);
        if (refusal != 0) {
            return refusal;
        }
        taken.take(DRAFT, texts.with(set), set);
        return taken.sizeOf(DRAFT);
    }

    public int copy() {
        if (copies.number >= MOST_COPIES) {
            return FULL;
        }
        taken.take(copies.number, taken, DRAFT);
        taken.clear(DRAFT);
        copies.number++;
        return copies.number - 1;
    }

    public int drop() {
        if (copies.number == 0) {
            return NONE;
        }
        copies.number--;
        return taken.sizeOf(copies.number);
    }

    public int times(int c, int i) {
        if (!copies.hasCopy(c)) {
            return UNKNOWN;
        }
        return i == NONE ? copies.timesOf(c) : copies.timeAt(c, i);
    }

    public long holds() {
        return copies.rowsOfTimes();
    }

    public int when(int c, int what) {
        if (!copies.hasCopy(c)) {
            return UNKNOWN;
        }
        return what == 0 || what == 1 ? copies.outermost(c, what == 1) : OUTSIDE;
    }

    public int nearest(int c, int what) {
        if (!copies.hasCopy(c)) {
            return UNKNOWN;
        }
        if (what != 0 && what != 1) {
            return OUTSIDE;
        }
        int set = copies.nearestSet(c);
        return what == 1 ? set : distance.between(taken, c, texts.with(set), set);
    }

    // ---- what may not stand

    public int bar(int x, int y, boolean is) {
        if (!isWord(x) || !isWord(y)) {
            return OUTSIDE;
        }
        boolean was = bars.isBarred(x, y);
        if (is && !was && bars.pairs >= MOST_PAIRS) {
            return FULL;
        }
        if (is != was) {
            bars.turn(x, y);
        }
        return was ? 1 : 0;
    }

    public int breaks(int set) {
        int refusal = must.refuse(set);
        return refusal != 0 ? refusal : bars.breaksIn(texts.with(set), set);
    }

    public long clean() {
        return all.numberClean();
    }

    public int least() {
        return sessions.leastBreaks();
    }

    // ---- what the calls above share

    private static boolean isWord(int w) {
        return w >= 0 && w < WORDS;
    }

    private static boolean isInk(int i) {
        return i >= 0 && i < INKS;
    }

    private int wordOrSize(int set, int i) {
        Shelf shelf = texts.with(set);
        return i == NONE ? shelf.sizeOf(set) : shelf.wordAt(set, i);
    }

    private int fewestMarks(int w) {
        int fewest = MARKS + 1;
        for (int k = 0; k < must.goodCount(); k++) {
            int set = must.goodAt(k);
            if (Integer.bitCount(set) < fewest && texts.stands(w, set)) {
                fewest = Integer.bitCount(set);
            }
        }
        return fewest > MARKS ? NONE : fewest;
    }

    private int mostMarks(int w) {
        int most = NONE;
        for (int k = 0; k < must.goodCount(); k++) {
            int set = must.goodAt(k);
            if (Integer.bitCount(set) > most && texts.stands(w, set)) {
                most = Integer.bitCount(set);
            }
        }
        return most;
    }

    private int goodSetsWith(int w) {
        int found = 0;
        for (int k = 0; k < must.goodCount(); k++) {
            if (texts.stands(w, must.goodAt(k))) {
                found++;
            }
        }
        return found;
    }

    private boolean neverChanges(int m) {
        for (int k = 0; k < must.goodCount(); k++) {
            int set = must.goodAt(k);
            if ((must.following(set) >> m & 1) != 0 && !texts.alike(set, set | 1 << m)) {
                return false;
            }
        }
        return true;
    }

    /** Rows of words, eight to a long, so that two rows are held against each other in a few steps. */
    private static final class Shelf {
        private static final int PARTS = 5;
        private static final int UNMADE = -1;

        private final int rows;
        private final long[] parts;
        private final int[] sizes;

        Shelf(int wanted) {
            rows = Math.max(1, wanted);
            parts = new long[rows * PARTS];
            sizes = new int[rows];
        }

        boolean isMade(int row) {
            return row >= 0 && row < rows && sizes[row] != UNMADE;
        }

        void unmakeAll() {
            Arrays.fill(sizes, UNMADE);
        }

        void clear(int row) {
            if (row < 0 || row >= rows) {
                return;
            }
            for (int k = 0; k < PARTS; k++) {
                parts[row * PARTS + k] = 0;
            }
            sizes[row] = 0;
        }

        int sizeOf(int row) {
            return isMade(row) ? sizes[row] : 0;
        }

        void put(int row, int word) {
            if (row >= 0 && row < rows && sizes[row] >= 0 && sizes[row] < LONGEST) {
                int i = sizes[row];
                parts[row * PARTS + (i >> 3)] |= (long) word << (8 * (i & 7));
                sizes[row] = i + 1;
            }
        }

        int wordAt(int row, int i) {
            if (!isMade(row) || i < 0 || i >= sizes[row]) {
                return NONE;
            }
            return (int) (parts[row * PARTS + (i >> 3)] >>> (8 * (i & 7))) & 255;
        }

        boolean isAlike(int row, Shelf other, int otherRow) {
            if (!isMade(row) || !other.isMade(otherRow) || sizes[row] != other.sizes[otherRow]) {
                return false;
            }
            for (int k = 0; k < PARTS; k++) {
                if (parts[row * PARTS + k] != other.parts[otherRow * PARTS + k]) {
                    return false;
                }
            }
            return true;
        }

        void take(int row, Shelf other, int otherRow) {
            if (row >= 0 && row < rows && other.isMade(otherRow)) {
                System.arraycopy(other.parts, otherRow * PARTS, parts, row * PARTS, PARTS);
                sizes[row] = other.sizes[otherRow];
            }
        }

        /** A number below the bound, like for like rows. */
        int scatter(int row, int bound) {
            if (!isMade(row) || bound < 1) {
                return 0;
            }
            long mixed = sizes[row];
            for (int k = 0; k < PARTS; k++) {
                mixed = (mixed ^ parts[row * PARTS + k]) * 0x9E3779B97F4A7C15L;
                mixed ^= mixed >>> 29;
            }
            return (int) Math.floorMod(mixed, (long) bound);
        }
    }

    /** A sheet as it was read: its items in a row, brackets with their ends, and what is known of each mark. */
    private static final class Sheet {
        /** Enough for 40 words and for the ends, stars and rows of 10 marks, with one more begun before a fault. */
        private static final int ITEMS = 100;
        private static final int WORD = 'w';

        private static final int PUT_IN = 0, STRUCK = 1, LET_STAND = 2, MOVED = 3, OVER = 4;

        private final byte[] printed = new byte[BYTES];
        private int printedSize;
        private boolean numberLast;
        private final int[] signs = new int[ITEMS];
        private final int[] markOf = new int[ITEMS];
        /** The word of a word's item, the place of the end of a bracket's. */
        private final int[] link = new int[ITEMS];
        private int items;
        private int marks;
        private int words;
        private final int[] kind = new int[MARKS];
        private final int[] told = new int[MARKS];
        private final int[] inside = new int[MARKS];
        private final int[] deep = new int[MARKS];
        private final int[] openAt = new int[MARKS];
        private final int[] starAt = new int[MARKS];
        private final int[] stander = new int[MARKS];

        void wipe() {
            printedSize = 0;
            numberLast = false;
            items = 0;
            marks = 0;
            words = 0;
            Arrays.fill(told, 0);
            Arrays.fill(inside, 0);
            Arrays.fill(stander, NONE);
        }

        void addItem(int sign) {
            if (items < ITEMS) {
                signs[items] = sign;
                markOf[items] = NONE;
                link[items] = NONE;
                items++;
            }
        }

        void printSign(int sign) {
            if (printedSize < BYTES) {
                printed[printedSize] = (byte) sign;
                printedSize++;
            }
            numberLast = false;
        }

        void printNumber(int value) {
            if (numberLast) {
                printSign(' ');
            }
            if (value >= 10) {
                printSign('0' + value / 10);
            }
            printSign('0' + value % 10);
            numberLast = true;
        }

        void tell(int m, int itsKind, int itsDepth, int mustFollow) {
            kind[m] = itsKind;
            deep[m] = itsDepth;
            told[m] |= mustFollow;
        }

        /** Every item is passed once at most, as no arrow's place lies within what an arrow moves. */
        void spell(int set, Shelf shelf) {
            shelf.clear(set);
            int over = 0;
            int at = 0;
            for (int step = 0; step < ITEMS && at >= 0 && at < items; step++) {
                if (signs[at] == WORD) {
                    shelf.put(set, link[at]);
                } else if (signs[at] == '(' || signs[at] == '/' && isIn(set, markOf[at])) {
                    over = link[at];
                } else if (signs[at] == ')') {
                    shelf.put(set, over);
                }
                at = after(at, set);
            }
        }

        private int after(int at, int set) {
            int m = markOf[at];
            if (m < 0 || m >= MARKS) {
                return at + 1;
            }
            boolean made = (set >> m & 1) != 0;
            boolean letStand = stander[m] >= 0 && (set >> stander[m] & 1) != 0;
            switch (signs[at]) {
                case '{':
                    return made ? at + 1 : link[at] + 1;
                case '[':
                    return made && !letStand ? link[at] + 1 : at + 1;
                case '<':
                    return made ? link[at] + 1 : at + 1;
                case '*':
                    return made ? openAt[m] + 1 : at + 1;
                case '>':
                    return made ? starAt[m] + 1 : at + 1;
                default:
                    return at + 1;
            }
        }

        private static boolean isIn(int set, int m) {
            return m >= 0 && m < MARKS && (set >> m & 1) != 0;
        }
    }

    /** Holds the text that is told and reads it into a sheet, up to its first fault. */
    private static final class Reader {
        private static final int ITEM = 0, COLON = 1, COLON_OR_STAND = 2, SLASH = 3, SLASH_OR_END = 4;
        private static final int BRACKET_MARK = 5, STAND_MARK = 6, STAR_MARK = 7, OVER_MARK = 8;
        private static final int FIRST_WORD = 9, NEXT_WORD = 10;

        private final byte[] heard = new byte[BYTES];
        private int size;
        private int faultAt = NONE;
        private Sheet into;
        /** What may come now. */
        private int state;
        private final int[] open = new int[DEEPEST];
        private int depth;
        private int toldMarks;
        private int overMark;
        private int signAt;
        private final int[] starByte = new int[MARKS];
        private final int[] arrowByte = new int[MARKS];

        Reader(Sheet sheet) {
            into = sheet;
        }

        void hear(int sign) {
            if (size < BYTES) {
                heard[size] = (byte) sign;
                size++;
            }
        }

        int readInto(Sheet sheet) {
            start(sheet);
            int at = 0;
            int found = 0;
            for (int step = 0; step < BYTES && at < size && found == 0; step++) {
                int end = endOfToken(at);
                found = takeToken(at, end);
                at = found == 0 ? end : at;
            }
            if (found == 0 && (state != ITEM || depth > 0)) {
                found = 1;
            }
            int lone = loneArrow();
            if (found == 0 && lone != NONE) {
                found = 6;
                at = lone;
            }
            if (found == 0 && (toldMarks & toldMarks + 1) != 0) {
                found = 7;
            }
            faultAt = found == 0 ? NONE : at;
            sheet.marks = Integer.bitCount(toldMarks);
            size = 0;
            return found;
        }

        private void start(Sheet sheet) {
            sheet.wipe();
            into = sheet;
            state = ITEM;
            depth = 0;
            toldMarks = 0;
            overMark = NONE;
            signAt = NONE;
            Arrays.fill(starByte, NONE);
            Arrays.fill(arrowByte, NONE);
        }

        private int byteAt(int at) {
            return at >= 0 && at < size && at < BYTES ? heard[at] & 255 : 0;
        }

        private boolean isFigure(int at) {
            return byteAt(at) >= '0' && byteAt(at) <= '9';
        }

        private int endOfToken(int at) {
            int end = at + 1;
            if (isFigure(at)) {
                while (end < size && isFigure(end)) {
                    end++;
                }
            }
            return end;
        }

        private int takeToken(int at, int end) {
            if (byteAt(at) == ' ') {
                return 0;
            }
            return isFigure(at) ? takeNumber(at, end) : takeSign(at);
        }

        /** The tests stand in the order of the faults' numbers, as of several at one byte the least counts. */
        private int takeNumber(int at, int end) {
            boolean forMark = state >= BRACKET_MARK && state <= OVER_MARK;
            boolean forWord = state == ITEM || state == FIRST_WORD || state == NEXT_WORD;
            if (!forMark && !forWord) {
                return 1;
            }
            if (end - at > 2) {
                return 2;
            }
            int value = byteAt(at) - '0';
            if (end - at == 2) {
                value = 10 * value + byteAt(at + 1) - '0';
            }
            if (forMark && value >= MARKS) {
                return 2;
            }
            if (forMark && isToldAlready(value)) {
                return 3;
            }
            if (forWord && into.words >= LONGEST) {
                return 4;
            }
            into.printNumber(value);
            if (forMark) {
                takeMark(value);
            } else {
                takeWord(value);
            }
            return 0;
        }

        private boolean isToldAlready(int m) {
            return state == STAR_MARK ? starByte[m] != NONE : (toldMarks >> m & 1) != 0;
        }

        private void takeMark(int m) {
            switch (state) {
                case BRACKET_MARK:
                    takeBracketMark(m);
                    break;
                case STAND_MARK:
                    takeStandMark(m);
                    break;
                case STAR_MARK:
                    takeStarMark(m);
                    break;
                default:
                    takeOverMark(m);
                    break;
            }
        }

        private void takeBracketMark(int m) {
            int at = innermost();
            int sign = into.signs[at];
            into.markOf[at] = m;
            into.openAt[m] = at;
            int itsKind = sign == '{' ? Sheet.PUT_IN : sign == '[' ? Sheet.STRUCK : Sheet.MOVED;
            into.tell(m, itsKind, depth - 1, putInAround(depth - 1));
            if (sign == '<') {
                arrowByte[m] = signAt;
            }
            toldMarks |= 1 << m;
            state = sign == '[' ? COLON_OR_STAND : COLON;
        }

        private void takeStandMark(int m) {
            int struckBy = into.markOf[innermost()];
            if (struckBy >= 0) {
                into.stander[struckBy] = m;
                into.tell(m, Sheet.LET_STAND, depth - 1, putInAround(depth - 1) | 1 << struckBy);
            }
            toldMarks |= 1 << m;
            state = COLON;
        }

        private void takeStarMark(int m) {
            int at = Math.max(0, into.items - 1);
            into.markOf[at] = m;
            into.starAt[m] = at;
            into.told[m] |= putInAround(depth);
            starByte[m] = signAt;
            state = ITEM;
        }

        private void takeOverMark(int m) {
            into.markOf[Math.max(0, into.items - 1)] = m;
            into.tell(m, Sheet.OVER, depth, putInAround(depth) | (overMark < 0 ? 0 : 1 << overMark));
            into.inside[m] = 1;
            overMark = m;
            toldMarks |= 1 << m;
            state = NEXT_WORD;
        }

        private void takeWord(int w) {
            into.words++;
            for (int d = 0; d < depth && d < DEEPEST; d++) {
                countInside(into.markOf[open[d]]);
            }
            if (state == ITEM) {
                into.addItem(Sheet.WORD);
            }
            into.link[Math.max(0, into.items - 1)] = w;
            if (state != ITEM) {
                state = state == FIRST_WORD ? SLASH : SLASH_OR_END;
            }
        }

        private void countInside(int m) {
            if (m >= 0) {
                into.inside[m]++;
                if (into.stander[m] >= 0) {
                    into.inside[into.stander[m]]++;
                }
            }
        }

        private int takeSign(int at) {
            int sign = byteAt(at);
            int found = 1;
            if (state == ITEM) {
                found = takeItemSign(sign, at);
            } else if (sign == ':' && (state == COLON || state == COLON_OR_STAND)) {
                found = go(ITEM);
            } else if (sign == '!' && state == COLON_OR_STAND) {
                found = go(STAND_MARK);
            } else if (sign == '/' && (state == SLASH || state == SLASH_OR_END)) {
                into.addItem(sign);
                found = go(OVER_MARK);
            } else if (sign == ')' && state == SLASH_OR_END) {
                into.addItem(sign);
                found = go(ITEM);
            }
            if (found == 0) {
                into.printSign(sign);
            }
            return found;
        }

        private int go(int nextState) {
            state = nextState;
            return 0;
        }

        private int takeItemSign(int sign, int at) {
            signAt = at;
            switch (sign) {
                case '{':
                case '[':
                case '<':
                    return openBracket(sign);
                case '}':
                case ']':
                case '>':
                    return closeBracket(sign);
                case '*':
                    if (isWithinArrow()) {
                        return 1;
                    }
                    into.addItem(sign);
                    return go(STAR_MARK);
                case '(':
                    into.addItem(sign);
                    overMark = NONE;
                    return go(FIRST_WORD);
                default:
                    return 1;
            }
        }

        private int openBracket(int sign) {
            if (depth >= DEEPEST) {
                return 5;
            }
            open[depth] = into.items;
            depth++;
            into.addItem(sign);
            return go(BRACKET_MARK);
        }

        private int closeBracket(int sign) {
            int at = innermost();
            boolean isEmpty = into.items == at + 1;
            if (depth == 0 || isEmpty || sign != closerOf(into.signs[at])) {
                return 1;
            }
            into.link[at] = into.items;
            into.addItem(sign);
            into.markOf[into.link[at]] = into.markOf[at];
            depth--;
            return 0;
        }

        private static int closerOf(int sign) {
            return sign == '{' ? '}' : sign == '[' ? ']' : '>';
        }

        private int innermost() {
            return depth > 0 ? open[depth - 1] : 0;
        }

        private boolean isWithinArrow() {
            for (int d = 0; d < depth && d < DEEPEST; d++) {
                if (into.signs[open[d]] == '<') {
                    return true;
                }
            }
            return false;
        }

        private int putInAround(int levels) {
            int found = 0;
            for (int d = 0; d < levels && d < DEEPEST; d++) {
                int m = into.markOf[open[d]];
                if (into.signs[open[d]] == '{' && m >= 0) {
                    found |= 1 << m;
                }
            }
            return found;
        }

        private int loneArrow() {
            int first = NONE;
            for (int m = 0; m < MARKS; m++) {
                boolean isLone = (starByte[m] == NONE) != (arrowByte[m] == NONE);
                int at = Math.max(starByte[m], arrowByte[m]);
                if (isLone && (first == NONE || at < first)) {
                    first = at;
                }
            }
            return first;
        }
    }

    /** Which mark must be behind which, and the sets that keep to it. */
    private static final class Must {
        private Sheet told;
        private final int[] inkOf = new int[MARKS];
        private final int[] earlierThan = new int[INKS];
        private final int[] before = new int[MARKS];
        private final int[] behind = new int[MARKS];
        private final int[] trial = new int[MARKS];
        private final int[] goods = new int[SETS];
        private int goodNumber;
        /** Others see by it whether what they made is still true. */
        private int version;
        private int goodVersion = NONE;

        Must(Sheet sheet) {
            told = sheet;
        }

        void startOn(Sheet sheet) {
            told = sheet;
            Arrays.fill(inkOf, 0);
            Arrays.fill(earlierThan, 0);
            settle();
        }

        boolean hasMark(int m) {
            return m >= 0 && m < told.marks && m < MARKS;
        }

        boolean hasBits(int set) {
            return set >= 0 && set <= full();
        }

        int full() {
            return (1 << told.marks) - 1;
        }

        /** Changes nothing and answers false, if some mark would have to be behind itself. */
        boolean settle() {
            for (int m = 0; m < told.marks; m++) {
                trial[m] = told.told[m] | inEarlierInks(m);
            }
            for (int k = 0; k < told.marks; k++) {
                for (int m = 0; m < told.marks; m++) {
                    if ((trial[m] >> k & 1) != 0) {
                        trial[m] |= trial[k];
                    }
                }
            }
            for (int m = 0; m < told.marks; m++) {
                if ((trial[m] >> m & 1) != 0) {
                    return false;
                }
            }
            keepTrial();
            return true;
        }

        private int inEarlierInks(int m) {
            int found = 0;
            for (int n = 0; n < told.marks; n++) {
                if ((earlierThan[inkOf[n]] >> inkOf[m] & 1) != 0) {
                    found |= 1 << n;
                }
            }
            return found;
        }

        private void keepTrial() {
            Arrays.fill(behind, 0);
            for (int m = 0; m < told.marks; m++) {
                before[m] = trial[m];
                for (int n = 0; n < told.marks; n++) {
                    if ((trial[m] >> n & 1) != 0) {
                        behind[n] |= 1 << m;
                    }
                }
            }
            version++;
        }

        int inksInUse() {
            int used = 0;
            for (int m = 0; m < told.marks; m++) {
                used |= 1 << inkOf[m];
            }
            return Integer.bitCount(used);
        }

        boolean isGood(int set) {
            for (int m = 0; m < told.marks; m++) {
                if ((set >> m & 1) != 0 && (before[m] & ~set) != 0) {
                    return false;
                }
            }
            return true;
        }

        int refuse(int set) {
            if (!hasBits(set)) {
                return UNKNOWN;
            }
            return isGood(set) ? 0 : NOT;
        }

        /** The marks that may come behind a good set. */
        int following(int set) {
            int found = 0;
            for (int m = 0; m < told.marks; m++) {
                if ((set >> m & 1) == 0 && (before[m] & ~set) == 0) {
                    found |= 1 << m;
                }
            }
            return found;
        }

        int goodCount() {
            if (goodVersion != version) {
                goodVersion = version;
                goodNumber = 0;
                for (int set = 0; set <= full() && set < SETS; set++) {
                    if (isGood(set)) {
                        goods[goodNumber] = set;
                        goodNumber++;
                    }
                }
            }
            return goodNumber;
        }

        int goodAt(int i) {
            return i < 0 || i >= goodCount() ? NONE : goods[i];
        }
    }

    /** The text of each set, made when it is first asked for. */
    private static final class Texts {
        private final Shelf shelf = new Shelf(SETS);
        private Sheet told;

        Texts(Sheet sheet) {
            told = sheet;
        }

        void startOn(Sheet sheet) {
            told = sheet;
            shelf.unmakeAll();
        }

        /** The shelf, on which the row of this set is then sure to be made. */
        Shelf with(int set) {
            if (!shelf.isMade(set)) {
                told.spell(set, shelf);
            }
            return shelf;
        }

        boolean alike(int a, int b) {
            with(a);
            return with(b).isAlike(a, shelf, b);
        }

        boolean stands(int w, int set) {
            int size = with(set).sizeOf(set);
            for (int i = 0; i < size; i++) {
                if (shelf.wordAt(set, i) == w) {
                    return true;
                }
            }
            return false;
        }
    }

    /** Pairs of words that may not stand side by side: for each first word two longs of second ones. */
    private static final class Bars {
        private final long[] seconds = new long[2 * WORDS];
        private int pairs;

        boolean isBarred(int x, int y) {
            if (!isWord(x) || !isWord(y)) {
                return false;
            }
            return (seconds[2 * x + (y >> 6)] >>> (y & 63) & 1L) != 0;
        }

        void turn(int x, int y) {
            if (isWord(x) && isWord(y)) {
                pairs += isBarred(x, y) ? -1 : 1;
                seconds[2 * x + (y >> 6)] ^= 1L << (y & 63);
            }
        }

        int breaksIn(Shelf shelf, int row) {
            int found = 0;
            int size = shelf.sizeOf(row);
            for (int i = 1; i < size && pairs > 0; i++) {
                if (isBarred(shelf.wordAt(row, i - 1), shelf.wordAt(row, i))) {
                    found++;
                }
            }
            return found;
        }
    }

    /** Counts orders: from the full set back, each good set has as many ways on as those one mark behind it. */
    private static final class Orders {
        private final Must must;
        private final Texts texts;
        private final Bars bars;
        private final long[] room;
        private final long[] ways = new long[SETS];
        private int waysVersion = NONE;

        Orders(Must must, Texts texts, Bars bars, long[] room) {
            this.must = must;
            this.texts = texts;
            this.bars = bars;
            this.room = room;
        }

        long number() {
            if (waysVersion != must.version) {
                waysVersion = must.version;
                Arrays.fill(ways, 1L);
                countWays(ways);
            }
            return ways[0];
        }

        int markAt(long i, int j) {
            if (i >= number() || !must.hasMark(j)) {
                return NONE;
            }
            long left = i;
            int set = 0;
            int m = NONE;
            for (int step = 0; step <= j; step++) {
                int can = must.following(set);
                m = 0;
                while (m < MARKS - 1 && ((can >> m & 1) == 0 || left >= ways[set | 1 << m])) {
                    left -= (can >> m & 1) == 0 ? 0 : ways[set | 1 << m];
                    m++;
                }
                set |= 1 << m;
            }
            return m;
        }

        long numberWith(int m, int n) {
            for (int k = 0; k < must.goodCount(); k++) {
                int set = must.goodAt(k);
                room[set] = (set >> n & 1) != 0 && (set >> m & 1) == 0 ? 0 : 1;
            }
            countWays(room);
            return room[0];
        }

        long numberClean() {
            for (int k = 0; k < must.goodCount(); k++) {
                int set = must.goodAt(k);
                room[set] = bars.breaksIn(texts.with(set), set) > 0 ? 0 : 1;
            }
            countWays(room);
            return room[0];
        }

        /** Turns 1 at each good set that may be passed, 0 elsewhere, into the number of ways on to the end. */
        private void countWays(long[] cells) {
            for (int k = must.goodCount() - 2; k >= 0; k--) {
                int set = must.goodAt(k);
                if (cells[set] != 0) {
                    cells[set] = waysOn(set, cells);
                }
            }
        }

        private long waysOn(int set, long[] cells) {
            long sum = 0;
            int can = must.following(set);
            for (int m = 0; m < MARKS; m++) {
                if ((can >> m & 1) != 0) {
                    sum += cells[set | 1 << m];
                }
            }
            return sum;
        }
    }

    /**
     * Orders with the fewest sessions. The cost on from a good set whose last mark is in an ink is the sessions still
     * to come, a thousand each, and the breaks behind sessions: ten sessions have less than four hundred.
     */
    private static final class Sessions {
        private static final long SESSION = 1000;
        private static final long NO_WAY = 1000000;

        private final Must must;
        private final Texts texts;
        private final Bars bars;
        private final long[] room;
        private final int[] first = new int[MARKS];
        private final long[] best = new long[INKS];
        private int fewestNumber;
        private int firstVersion = NONE;

        Sessions(Must must, Texts texts, Bars bars, long[] room) {
            this.must = must;
            this.texts = texts;
            this.bars = bars;
            this.room = room;
        }

        int fewest() {
            if (firstVersion != must.version) {
                firstVersion = must.version;
                fewestNumber = (int) (fillCosts(false) / SESSION);
                findFirst();
            }
            return fewestNumber;
        }

        int markAt(int j) {
            fewest();
            return must.hasMark(j) ? first[j] : NONE;
        }

        int leastBreaks() {
            return (int) (fillCosts(true) % SESSION);
        }

        private long fillCosts(boolean withBreaks) {
            int full = must.full();
            if (full == 0) {
                return 0;
            }
            for (int i = 0; i < INKS; i++) {
                room[INKS * full + i] = withBreaks ? breaksBehind(full) : 0;
            }
            for (int k = must.goodCount() - 2; k > 0; k--) {
                int set = must.goodAt(k);
                long change = SESSION + cheapest(set) + (withBreaks ? breaksBehind(set) : 0);
                for (int i = 0; i < INKS; i++) {
                    room[INKS * set + i] = Math.min(best[i], change);
                }
            }
            return SESSION + cheapest(0);
        }

        private long breaksBehind(int set) {
            return bars.breaksIn(texts.with(set), set);
        }

        /** The least cost behind one mark more, kept for each ink of that mark besides. */
        private long cheapest(int set) {
            Arrays.fill(best, NO_WAY);
            long least = NO_WAY;
            int can = must.following(set);
            for (int m = 0; m < MARKS; m++) {
                if ((can >> m & 1) != 0) {
                    int i = must.inkOf[m];
                    best[i] = Math.min(best[i], room[INKS * (set | 1 << m) + i]);
                    least = Math.min(least, best[i]);
                }
            }
            return least;
        }

        private void findFirst() {
            long left = fewestNumber * SESSION;
            int set = 0;
            int ink = NONE;
            for (int step = 0; step < must.told.marks; step++) {
                int m = leastMark(set, ink, left);
                left -= must.inkOf[m] == ink ? 0 : SESSION;
                ink = must.inkOf[m];
                set |= 1 << m;
                first[step] = m;
            }
        }

        private int leastMark(int set, int ink, long left) {
            int can = must.following(set);
            for (int m = 0; m < MARKS; m++) {
                if ((can >> m & 1) != 0) {
                    long now = must.inkOf[m] == ink ? 0 : SESSION;
                    if (now + room[INKS * (set | 1 << m) + must.inkOf[m]] == left) {
                        return m;
                    }
                }
            }
            return 0;
        }
    }

    /** The least set of each text that there ever was. */
    private static final class Views {
        private static final int SLOTS = 2 * SETS;

        private final Must must;
        private final Texts texts;
        private final long[] room;
        private final int[] leasts = new int[SETS];
        private int found;
        private int foundVersion = NONE;

        Views(Must must, Texts texts, long[] room) {
            this.must = must;
            this.texts = texts;
            this.room = room;
        }

        int number() {
            if (foundVersion != must.version) {
                foundVersion = must.version;
                findAll();
            }
            return found;
        }

        int leastSet(int i) {
            return i < 0 || i >= number() ? NONE : leasts[i];
        }

        private void findAll() {
            found = 0;
            Arrays.fill(room, NONE);
            for (int k = 0; k < must.goodCount(); k++) {
                int set = must.goodAt(k);
                int slot = slotFor(set);
                if (room[slot] == NONE) {
                    room[slot] = set;
                    leasts[found] = set;
                    found++;
                }
            }
        }

        /** The slot that has a set with a like text, or else a free one: half of the slots stay free. */
        private int slotFor(int set) {
            Shelf shelf = texts.with(set);
            int slot = shelf.scatter(set, SLOTS);
            for (int step = 0; step < SLOTS; step++) {
                if (room[slot] == NONE || shelf.isAlike(set, shelf, (int) room[slot])) {
                    return slot;
                }
                slot = slot + 1 < SLOTS ? slot + 1 : 0;
            }
            return slot;
        }
    }

    /** How far two rows of words are apart, a whole column at a time: its steps up and down are the bits of two longs. */
    private static final class Distance {
        private final long[] placesOf = new long[WORDS];

        int between(Shelf a, int rowA, Shelf b, int rowB) {
            int sizeA = a.sizeOf(rowA);
            int sizeB = b.sizeOf(rowB);
            if (sizeA == 0) {
                return sizeB;
            }
            Arrays.fill(placesOf, 0L);
            for (int i = 0; i < sizeA; i++) {
                int w = a.wordAt(rowA, i);
                if (isWord(w)) {
                    placesOf[w] |= 1L << i;
                }
            }
            return lastCell(sizeA, b, rowB, sizeB);
        }

        private int lastCell(int sizeA, Shelf b, int rowB, int sizeB) {
            long up = -1L;
            long down = 0L;
            int cell = sizeA;
            for (int i = 0; i < sizeB; i++) {
                int w = b.wordAt(rowB, i);
                long same = isWord(w) ? placesOf[w] : 0L;
                long sideways = (same & up) + up ^ up | same;
                long rise = down | ~(sideways | up);
                long fall = up & sideways;
                cell += (int) (rise >>> (sizeA - 1) & 1L) - (int) (fall >>> (sizeA - 1) & 1L);
                long steep = same | down;
                rise = rise << 1 | 1L;
                up = fall << 1 | ~(steep | rise);
                down = rise & steep;
            }
            return cell;
        }
    }

    /** Copies, the times at which each can have been taken, and rows of times that grow from copy to copy. */
    private static final class Copies {
        private final Must must;
        private final Texts texts;
        private final Shelf taken;
        private final Distance distance;
        /** Numbers of rows up to a copy, and behind these the numbers of rows from a copy on. */
        private final long[] room;
        private int number;

        Copies(Must must, Texts texts, Shelf taken, Distance distance, long[] room) {
            this.must = must;
            this.texts = texts;
            this.taken = taken;
            this.distance = distance;
            this.room = room;
        }

        boolean hasCopy(int c) {
            return c >= 0 && c < number;
        }

        private boolean isTime(int c, int set) {
            return taken.isAlike(c, texts.with(set), set);
        }

        int timesOf(int c) {
            int found = 0;
            for (int k = 0; k < must.goodCount(); k++) {
                if (isTime(c, must.goodAt(k))) {
                    found++;
                }
            }
            return found;
        }

        int timeAt(int c, int i) {
            int left = i;
            for (int k = 0; k < must.goodCount() && i >= 0; k++) {
                if (isTime(c, must.goodAt(k))) {
                    if (left == 0) {
                        return must.goodAt(k);
                    }
                    left--;
                }
            }
            return NONE;
        }

        long rowsOfTimes() {
            if (number == 0) {
                return 1;
            }
            countUpTo(number - 1);
            long sum = 0;
            for (int k = 0; k < must.goodCount(); k++) {
                sum += room[must.goodAt(k)];
            }
            return sum;
        }

        int outermost(int c, boolean latest) {
            countUpTo(c);
            countFrom(c);
            int chosen = NONE;
            for (int k = 0; k < must.goodCount(); k++) {
                int set = must.goodAt(k);
                if (room[set] > 0 && room[SETS + set] > 0 && isFurther(set, chosen, latest)) {
                    chosen = set;
                }
            }
            return chosen;
        }

        private static boolean isFurther(int set, int than, boolean latest) {
            int more = Integer.bitCount(set) - Integer.bitCount(Math.max(0, than));
            return than == NONE || (latest ? more > 0 : more < 0);
        }

        private void countUpTo(int last) {
            allowAll(0);
            keepTimes(0, 0);
            for (int c = 1; c <= last && c < MOST_COPIES; c++) {
                for (int m = 0; m < must.told.marks; m++) {
                    addFromWithout(m);
                }
                keepTimes(c, 0);
            }
        }

        private void countFrom(int c) {
            allowAll(SETS);
            keepTimes(number - 1, SETS);
            for (int d = number - 2; d >= c && d >= 0; d--) {
                for (int m = 0; m < must.told.marks; m++) {
                    addFromWith(m);
                }
                keepTimes(d, SETS);
            }
        }

        private void allowAll(int offset) {
            for (int set = 0; set < SETS; set++) {
                room[offset + set] = 1;
            }
        }

        private void keepTimes(int c, int offset) {
            for (int set = 0; set <= must.full() && set < SETS; set++) {
                boolean isTime = must.isGood(set) && taken.isAlike(c, texts.with(set), set);
                room[offset + set] = isTime ? room[offset + set] : 0;
            }
        }

        /** Mark by mark, each set comes to hold the sum over all sets within it. */
        private void addFromWithout(int m) {
            for (int set = 0; set <= must.full() && set < SETS; set++) {
                if ((set >> m & 1) != 0) {
                    room[set] += room[set ^ 1 << m];
                }
            }
        }

        /** Mark by mark, each set comes to hold the sum over all sets that it is within. */
        private void addFromWith(int m) {
            for (int set = 0; set <= must.full() && set < SETS; set++) {
                if ((set >> m & 1) == 0) {
                    room[SETS + set] += room[SETS + (set | 1 << m)];
                }
            }
        }

        int nearestSet(int c) {
            int chosen = 0;
            int least = distance.between(taken, c, texts.with(0), 0);
            for (int k = 1; k < must.goodCount() && least > 0; k++) {
                int set = must.goodAt(k);
                int far = distance.between(taken, c, texts.with(set), set);
                if (far < least) {
                    least = far;
                    chosen = set;
                }
            }
            return chosen;
        }
    }
}
