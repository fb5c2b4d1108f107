/**
 * Terms of a field drawn out of its texts. The document (../shared/DOC.md) says what each call
 * answers; README.md tells how the parts of this file hang together.
 */
public final class TermDraw {
    public static final int NONE = -1;

    private static final int NO_SUCH = -2;

    /** The least long: what measure() answers where there is no such MEASURE. */
    private static final long NO_MEASURE = 1L << 63;

    private static final int TAPE_MOST = 600;
    private static final int TOKENS_MOST = TAPE_MOST + 1;
    private static final int WORD_MOST = 10;
    private static final int LEXICON_MOST = 80;
    private static final int ENDINGS_MOST = 8;
    private static final int SAME_MOST = 40;
    private static final int DOCS_MOST = 8;
    private static final int PROSE_MOST = 240;
    private static final int KINDS_MOST = 12;
    private static final int OPEN_MOST = 4;
    private static final int LENGTH_MOST = 5;
    private static final int WEIGHT_MOST = 9;
    private static final int WIDE_MOST = 3;
    private static final int UNDO_MOST = 8;
    private static final int MATCHES_MOST = PROSE_MOST * LENGTH_MOST;
    private static final int SLATE_MOST = LENGTH_MOST * (WORD_MOST + 1) - 1;
    private static final int MEASURES = 7;

    /** The eight that undo() finds, the one told now, and the one that a change is tried on. */
    private static final int RING = UNDO_MOST + 2;

    private static final int LEXICON = 0;
    private static final int ENDINGS = 1;
    private static final int SAME = 2;
    private static final int GENERAL = 3;
    private static final int PATTERN = 4;

    private static final int CANT_STAND = 1;
    private static final int TOO_MANY = 2;

    /** What a reader stands at, where that is no byte. */
    private static final int AT_END = -1;
    private static final int AT_WORD = -2;
    private static final int AT_LONG_WORD = -3;

    /** A WORD is a long, its first letter highest: so longs stand in the order of letters. */
    private static final int LETTER_BITS = 5;
    private static final int LETTER_MASK = 31;
    private static final int LETTER_BASE = 'a' - 1;

    /** A row of words is a long too: one cell a word, its number and 1, the first one highest. */
    private static final int CELL_BITS = 8;
    private static final long CELL_MASK = 255;
    private static final long ROW_MASK = (1L << CELL_BITS * LENGTH_MOST) - 1;

    private static final int KIND_MASK = (1 << KINDS_MOST) - 1;

    private static final int FLOAT_BIAS = 127;
    private static final int FLOAT_FRACTION = 23;
    private static final int DOUBLE_BIAS = 1023;
    private static final int DOUBLE_FRACTION = 52;
    private static final long DOUBLE_ONE = 1L << DOUBLE_FRACTION;
    private static final int FLOAT_SIGN = 1 << 31;
    private static final long DOUBLE_SIGN = 1L << 63;

    private final Bytes tape;
    private final Bytes slate;
    private final Reader reader;
    private final Told[] ring;
    private final Bases bases;
    private final Matches matches;
    private final Terms terms;
    private final Measures measures;
    private Told now;
    private Told draft;
    private int top;
    private int undos;
    private int fault;
    private int faultPlace;
    private boolean drawn;

    public TermDraw() {
        tape = new Bytes(TAPE_MOST);
        slate = new Bytes(SLATE_MOST);
        reader = new Reader(tape);
        now = new Told();
        draft = new Told();
        ring = new Told[RING];
        for (int i = 0; i < ring.length; i++) {
            ring[i] = i == 0 ? now : i == 1 ? draft : new Told();
        }
        bases = new Bases();
        matches = new Matches();
        terms = new Terms(bases, matches);
        measures = new Measures(terms);
        faultPlace = NONE;
    }

    // ---- telling ----

    public int feed(int a, int b, int c, int d, int e) {
        if (tape.size > TAPE_MOST - 20) {
            return NONE;
        }
        tape.addNumber(a);
        tape.addNumber(b);
        tape.addNumber(c);
        tape.addNumber(d);
        tape.addNumber(e);
        return tape.size;
    }

    public boolean end(int n) {
        if (n < 0 || n > tape.size) {
            return false;
        }
        tape.size = n;
        return true;
    }

    public int text(int which) {
        if (which < LEXICON || which > PATTERN) {
            return refuseUnread();
        }
        beginChange();
        readInto(draft, which);
        if (!endReading()) {
            return NONE;
        }
        return sizeOf(which);
    }

    public int doc() {
        if (now.docCount >= DOCS_MOST) {
            return refuseUnread();
        }
        beginChange();
        reader.readProse(draft.docs);
        draft.closeDoc();
        if (!endReading()) {
            return NONE;
        }
        return now.docCount - 1;
    }

    public int drop(int doc) {
        if (doc < 0 || doc >= now.docCount) {
            return NONE;
        }
        beginChange();
        draft.removeDoc(doc);
        keepChange();
        return now.docCount;
    }

    public int fault(int what) {
        if (what == 0) {
            return fault;
        }
        return what == 1 ? faultPlace : NONE;
    }

    public boolean lengths(int least, int most) {
        if (least < 1 || most > LENGTH_MOST || least > most) {
            return false;
        }
        if (least == now.least && most == now.most) {
            return false;
        }
        beginChange();
        draft.least = least;
        draft.most = most;
        keepChange();
        return true;
    }

    public boolean weight(int length, int v) {
        if (length < 1 || length > LENGTH_MOST || v < 0 || v > WEIGHT_MOST) {
            return false;
        }
        if (at(now.weights, length) == v) {
            return false;
        }
        beginChange();
        put(draft.weights, length, v);
        keepChange();
        return true;
    }

    public boolean wide(int v) {
        if (v < 0 || v > WIDE_MOST || v == now.wide) {
            return false;
        }
        beginChange();
        draft.wide = v;
        keepChange();
        return true;
    }

    public boolean undo() {
        if (undos <= 0) {
            return false;
        }
        undos--;
        top = (top + RING - 1) % RING;
        now = slotAt(top);
        drawn = false;
        return true;
    }

    // ---- asking ----

    public int of(int doc, int what) {
        if (doc < 0 || doc >= now.docCount) {
            return NONE;
        }
        switch (what) {
            case 0:
                return now.docSize(doc);
            case 1:
                return now.docSentences(doc);
            case 2:
                draw();
                return matches.startingIn(now.docFirst(doc), now.docFirst(doc) + now.docSize(doc));
            case 3:
                draw();
                return terms.inDoc(doc);
            default:
                return NONE;
        }
    }

    public int word(int doc, int i, boolean base) {
        int place = now.placeOf(doc, i);
        if (place < 0) {
            return NONE;
        }
        long text = now.docs.wordAt(place);
        slate.size = 0;
        slate.addWord(base ? now.baseOf(text) : text);
        return slate.size;
    }

    public int kindAt(int doc, int i) {
        int place = now.placeOf(doc, i);
        if (place < 0) {
            return NONE;
        }
        long text = now.docs.wordAt(place);
        return now.kindOf(text, now.baseOf(text));
    }

    public int match(int m, int what) {
        draw();
        if (m == NONE) {
            return matches.size;
        }
        if (m < 0 || m >= matches.size) {
            return NONE;
        }
        int first = at(matches.first, m);
        switch (what) {
            case 0:
                return now.docAt(first);
            case 1:
                return first - now.docFirst(now.docAt(first));
            case 2:
                return at(matches.length, m);
            case 3:
                return at(matches.term, m);
            case 4:
                return at(matches.within, m);
            default:
                return NONE;
        }
    }

    public int term(int t, boolean common) {
        draw();
        if (t < 0 || t >= terms.size) {
            return NONE;
        }
        int first = at(matches.first, at(terms.common, t));
        int length = terms.lengthOf(t);
        slate.size = 0;
        for (int n = 0; n < length && n < LENGTH_MOST; n++) {
            if (n > 0) {
                slate.add(' ');
            }
            slate.addWord(common ? now.docs.wordAt(first + n) : at(bases.base, first + n));
        }
        return slate.size;
    }

    public int slate(int i) {
        if (i == NONE) {
            return slate.size;
        }
        return i < 0 || i >= slate.size ? NO_SUCH : at(slate.cells, i);
    }

    public int find() {
        draw();
        long row = readRow();
        tape.size = 0;
        return row == 0 ? NONE : terms.placeOf(row);
    }

    public int told(int t, int what) {
        draw();
        if (t == NONE) {
            return terms.size;
        }
        if (t < 0 || t >= terms.size) {
            return NONE;
        }
        return terms.toldOf(t, what);
    }

    public long measure(int t, int measure, boolean under) {
        draw();
        if (!weighed(t, measure)) {
            return NO_MEASURE;
        }
        return under ? measures.below : measures.above;
    }

    public int share(int t, int measure) {
        draw();
        if (!weighed(t, measure)) {
            return NONE;
        }
        float below = (float) measures.below;
        return below > 0 ? floatBits((float) measures.above / below) : NONE;
    }

    public long rest(int t, int measure) {
        draw();
        if (!weighed(t, measure)) {
            return NONE;
        }
        double below = (double) measures.below;
        return below > 0 ? restBits((double) measures.above / below) : NONE;
    }

    public int ranked(int measure, int r) {
        draw();
        if (measure < 0 || measure >= MEASURES || r < 0 || r >= terms.size) {
            return NONE;
        }
        measures.prepare(now, measure);
        return measures.termAt(measure, r);
    }

    public int rank(int t, int measure) {
        draw();
        if (measure < 0 || measure >= MEASURES || t < 0 || t >= terms.size) {
            return NONE;
        }
        measures.prepare(now, measure);
        return measures.rankOf(measure, t);
    }

    public int longer(int t, int i) {
        draw();
        if (t < 0 || t >= terms.size) {
            return NONE;
        }
        if (i == NONE) {
            return at(terms.longer, t);
        }
        return terms.longerAt(t, i);
    }

    public int around(int t, int i) {
        draw();
        if (t < 0 || t >= terms.size || i < 0) {
            return NONE;
        }
        int base = terms.baseAround(now, t, i);
        if (base < 0) {
            return NONE;
        }
        slate.size = 0;
        slate.addWord(at(bases.unlike, base));
        return at(terms.tally, base);
    }

    public long likely(boolean under) {
        long text = slate.asWord();
        if (text == 0) {
            return NONE;
        }
        draw();
        measures.set(terms.likelyOf(bases.idOf(text)), terms.size);
        return under ? measures.below : measures.above;
    }

    public int head(int h, int what) {
        draw();
        int heads = terms.tallyHeads();
        if (h == NONE) {
            return heads;
        }
        if (h < 0 || h >= heads) {
            return NONE;
        }
        return terms.headTold(terms.tallied(h), what);
    }

    public int cover(int measure, int n) {
        draw();
        if (measure < 0 || measure >= MEASURES || n < 0 || n > terms.size) {
            return NONE;
        }
        measures.prepare(now, measure);
        return measures.coveredBy(measure, n);
    }

    public int look(int what) {
        switch (what) {
            case 0:
            case 1:
            case 2:
                return sizeOf(what);
            case 3:
                return now.docCount;
            case 4:
                return now.docs.size;
            case 5:
                return now.general.size;
            case 6:
                return now.least;
            case 7:
                return now.most;
            case 8:
                return now.wide;
            case 9:
                return undos;
            case 10:
                return tape.size;
            default:
                return NONE;
        }
    }

    // ---- how a change is made, kept, undone ----

    private Told slotAt(int i) {
        Told slot = i >= 0 && i < ring.length ? ring[i] : null;
        return slot == null ? now : slot;
    }

    private void beginChange() {
        draft = slotAt((top + 1) % RING);
        draft.copyFrom(now);
    }

    private void keepChange() {
        top = (top + 1) % RING;
        now = draft;
        undos = Math.min(undos + 1, UNDO_MOST);
        drawn = false;
    }

    private int refuseUnread() {
        tape.size = 0;
        fault = 0;
        faultPlace = NONE;
        return NO_SUCH;
    }

    private void readInto(Told into, int which) {
        switch (which) {
            case LEXICON:
                reader.readLexicon(into.lexicon);
                break;
            case ENDINGS:
                reader.readEndings(into.endings);
                break;
            case SAME:
                reader.readSame(into);
                break;
            case GENERAL:
                into.general.size = 0;
                reader.readProse(into.general);
                break;
            default:
                reader.readPattern(into.pattern);
                break;
        }
    }

    /** THE TAPE is empty then; the draft is kept only if it was read without a FAULT. */
    private boolean endReading() {
        tape.size = 0;
        fault = reader.fault;
        faultPlace = fault == 0 ? NONE : reader.faultPlace;
        if (fault != 0) {
            return false;
        }
        keepChange();
        return true;
    }

    private int sizeOf(int which) {
        switch (which) {
            case LEXICON:
                return now.lexicon.size;
            case ENDINGS:
                return now.endings.size;
            case SAME:
                return now.sameWords;
            case GENERAL:
                return now.general.size;
            default:
                return now.pattern.size;
        }
    }

    // ---- what is drawn out of what is told ----

    /** All that is asked of MATCHES and TERMS stands on what is told now: drawn anew after a change. */
    private void draw() {
        if (drawn) {
            return;
        }
        bases.build(now);
        matches.build(now, bases);
        terms.build(now);
        measures.ready = 0;
        drawn = true;
    }

    /** The FRACTION stands in measures then. */
    private boolean weighed(int t, int measure) {
        if (t < 0 || t >= terms.size || measure < 0 || measure >= MEASURES) {
            return false;
        }
        measures.weigh(now, t, measure);
        return true;
    }

    /** The row of BASES that THE TAPE has; 0 if it is none, or one that no TERM can have. */
    private long readRow() {
        long row = 0;
        int n = 0;
        reader.begin();
        reader.next();
        for (int i = 0; i < TOKENS_MOST && reader.sign == AT_WORD; i++) {
            int id = bases.idOf(now.baseOf(reader.word));
            if (id < 0 || n >= LENGTH_MOST) {
                return 0;
            }
            row |= cell(id, n);
            n++;
            reader.next();
        }
        return reader.sign == AT_END ? row : 0;
    }

    // ---- rows of numbers: an index outside a row reads 0 and puts nothing ----

    private static int[] ints(int n) {
        return new int[n > 0 ? n : 0];
    }

    private static long[] longs(int n) {
        return new long[n > 0 ? n : 0];
    }

    private static int at(int[] row, int i) {
        return i >= 0 && i < row.length ? row[i] : 0;
    }

    private static long at(long[] row, int i) {
        return i >= 0 && i < row.length ? row[i] : 0;
    }

    private static void put(int[] row, int i, int v) {
        if (i >= 0 && i < row.length) {
            row[i] = v;
        }
    }

    private static void put(long[] row, int i, long v) {
        if (i >= 0 && i < row.length) {
            row[i] = v;
        }
    }

    private static void clear(int[] row, int n) {
        for (int i = 0; i < n && i < row.length; i++) {
            row[i] = 0;
        }
    }

    private static void copy(int[] from, int[] to, int n) {
        for (int i = 0; i < n && i < from.length && i < to.length; i++) {
            to[i] = from[i];
        }
    }

    private static void copy(long[] from, long[] to, int n) {
        for (int i = 0; i < n && i < from.length && i < to.length; i++) {
            to[i] = from[i];
        }
    }

    /** Where a value stands in a sorted row, or would: the first place of one that is not less. */
    private static int lowest(long[] row, int size, long value) {
        int low = 0;
        int high = size;
        for (int step = 0; step < 32 && low < high; step++) {
            int middle = (low + high) >>> 1;
            if (at(row, middle) < value) {
                low = middle + 1;
            } else {
                high = middle;
            }
        }
        return low;
    }

    /** Puts a value where it belongs in a sorted row of unlike ones; how many they are then. */
    private static int insert(long[] row, int size, long value) {
        int place = lowest(row, size, value);
        if (size >= row.length || place < size && at(row, place) == value) {
            return size;
        }
        for (int i = size; i > place; i--) {
            put(row, i, at(row, i - 1));
        }
        put(row, place, value);
        return size + 1;
    }

    private static int exact(long[] row, int size, long value) {
        int place = lowest(row, size, value);
        return place < size && at(row, place) == value ? place : NONE;
    }

    // ---- words, and rows of them, as longs ----

    private static int letterShift(int i) {
        return LETTER_BITS * (WORD_MOST - 1 - i);
    }

    private static int letterAt(long word, int i) {
        return i < 0 || i >= WORD_MOST ? 0 : (int) (word >>> letterShift(i)) & LETTER_MASK;
    }

    private static int lettersOf(long word) {
        int n = 0;
        while (n < WORD_MOST && letterAt(word, n) != 0) {
            n++;
        }
        return n;
    }

    private static boolean isLetter(int b) {
        return b >= 'a' && b <= 'z';
    }

    /** The word with another ending in place of one; 0 if it has not that one, or gets too long. */
    private static long replaced(long word, long ending, long by) {
        int stem = lettersOf(word) - lettersOf(ending);
        if (stem < 2 || stem + lettersOf(by) > WORD_MOST) {
            return 0;
        }
        int shift = LETTER_BITS * stem;
        long tail = word & ((1L << LETTER_BITS * (WORD_MOST - stem)) - 1);
        if (tail != ending >>> shift) {
            return 0;
        }
        return word - tail | by >>> shift;
    }

    private static long cell(int id, int n) {
        return (long) (id + 1) << CELL_BITS * (LENGTH_MOST - 1 - n);
    }

    private static int idIn(long row, int n) {
        return (int) (row >>> CELL_BITS * (LENGTH_MOST - 1 - n) & CELL_MASK) - 1;
    }

    private static int cellsOf(long row) {
        int n = 0;
        while (n < LENGTH_MOST && idIn(row, n) >= 0) {
            n++;
        }
        return n;
    }

    private static long part(long row, int from, int length) {
        long tail = row << CELL_BITS * from & ROW_MASK;
        int rest = CELL_BITS * (LENGTH_MOST - length);
        return tail >>> rest << rest;
    }

    private static boolean holds(long row, long part) {
        int length = cellsOf(part);
        int last = cellsOf(row) - length;
        for (int from = 0; from <= last && from < LENGTH_MOST; from++) {
            if (part(row, from, length) == part) {
                return true;
            }
        }
        return false;
    }

    // ---- bits of floats and doubles, by hand: the language leaves their library out ----

    /** By how many twos a value above 0 is divided to come to 1 or between 1 and 2; multiplied: less than 0. */
    private static int exponentOf(double value) {
        int exponent = 0;
        for (int i = 0; i < DOUBLE_BIAS && value >= 2; i++) {
            value = value / 2;
            exponent++;
        }
        for (int i = 0; i < DOUBLE_BIAS && value > 0 && value < 1; i++) {
            value = value * 2;
            exponent--;
        }
        return exponent;
    }

    /** The 53 bits of a value above 0 that stand behind its exponent, the leading one with them. */
    private static long fractionOf(double value, int exponent) {
        double scaled = value;
        for (int i = exponent; i < 0; i++) {
            scaled = scaled * 2;
        }
        for (int i = exponent; i > 0; i--) {
            scaled = scaled / 2;
        }
        return (long) (scaled * DOUBLE_ONE);
    }

    private static int floatBits(float value) {
        if (value == 0) {
            return 0;
        }
        double size = value < 0 ? -(double) value : (double) value;
        int exponent = exponentOf(size);
        int fraction = (int) (fractionOf(size, exponent) >>> DOUBLE_FRACTION - FLOAT_FRACTION);
        int bits = exponent + FLOAT_BIAS << FLOAT_FRACTION | fraction & (1 << FLOAT_FRACTION) - 1;
        return value < 0 ? bits | FLOAT_SIGN : bits;
    }

    /**
     * The bits of value % 1.5, which is exact: value is a whole number of units of
     * 2 to the (exponent - 52), and 1.5 is one too from a value of 1.5 on. A rest of 0 keeps the
     * sign of the value.
     */
    private static long restBits(double value) {
        if (value == 0) {
            return 0;
        }
        double size = value < 0 ? -value : value;
        long sign = value < 0 ? DOUBLE_SIGN : 0;
        int exponent = exponentOf(size);
        long units = fractionOf(size, exponent);
        if (size >= 1.5) {
            // no MEASURE comes near 2 to the 51st, so the shift stays within 0 .. 51
            long whole = 3L << Math.max(0, DOUBLE_FRACTION - 1 - exponent);
            units = whole > 0 ? units % whole : 0;
        }
        if (units == 0) {
            return sign;
        }
        for (int i = 0; i < DOUBLE_FRACTION && units < DOUBLE_ONE; i++) {
            units = units << 1;
            exponent--;
        }
        return sign | (long) (exponent + DOUBLE_BIAS) << DOUBLE_FRACTION | units & DOUBLE_ONE - 1;
    }

    private static long greatestDivisor(long a, long b) {
        long big = Math.abs(a);
        long small = Math.abs(b);
        for (int step = 0; step < 200 && small != 0; step++) {
            long left = big % small;
            big = small;
            small = left;
        }
        return big;
    }

    /** A row of bytes of a limited length: THE TAPE, THE SLATE. */
    private static final class Bytes {
        final int[] cells;
        int size;

        Bytes(int most) {
            cells = ints(most);
        }

        void add(int b) {
            if (size < cells.length) {
                put(cells, size, b & 255);
                size++;
            }
        }

        void addNumber(int number) {
            add(number >>> 24);
            add(number >>> 16);
            add(number >>> 8);
            add(number);
        }

        void addWord(long text) {
            int n = lettersOf(text);
            for (int i = 0; i < n && i < WORD_MOST; i++) {
                add(LETTER_BASE + letterAt(text, i));
            }
        }

        int byteAt(int i) {
            return i < 0 || i >= size || i >= cells.length ? AT_END : cells[i];
        }

        /** The one WORD that it is; 0 if it is none. */
        long asWord() {
            if (size > WORD_MOST) {
                return 0;
            }
            long text = 0;
            for (int i = 0; i < size; i++) {
                int b = byteAt(i);
                if (!isLetter(b)) {
                    return 0;
                }
                text |= (long) (b - LETTER_BASE) << letterShift(i);
            }
            return text;
        }
    }

    /** Reads THE TAPE as one of the TEXTS; keeps the first FAULT and its place. */
    private static final class Reader {
        final Bytes tape;
        int behind;
        int place;
        int sign;
        long word;
        int fault;
        int faultPlace;

        Reader(Bytes tape) {
            this.tape = tape;
        }

        void begin() {
            behind = 0;
            fault = 0;
            faultPlace = NONE;
        }

        void refuse(int what) {
            if (fault == 0) {
                fault = what;
                faultPlace = place;
            }
        }

        /** To the next byte that is no blank, or the end. */
        void nextByte() {
            int b = tape.byteAt(behind);
            for (int i = 0; i < TAPE_MOST && (b == ' ' || b == '\n'); i++) {
                behind++;
                b = tape.byteAt(behind);
            }
            place = behind;
            sign = b;
            if (b != AT_END) {
                behind++;
            }
        }

        /** To the next WORD, or other byte, or the end. */
        void next() {
            nextByte();
            if (!isLetter(sign)) {
                return;
            }
            int letters = 0;
            word = 0;
            behind = place;
            for (int i = 0; i < TAPE_MOST && isLetter(tape.byteAt(behind)); i++) {
                if (letters < WORD_MOST) {
                    word |= (long) (tape.byteAt(behind) - LETTER_BASE) << letterShift(letters);
                }
                letters++;
                behind++;
            }
            sign = letters > WORD_MOST ? AT_LONG_WORD : AT_WORD;
        }

        boolean needs(int wanted) {
            if (sign != wanted) {
                refuse(CANT_STAND);
            }
            return fault == 0;
        }

        /** Past a byte that must stand here. */
        boolean passes(int wanted) {
            if (!needs(wanted)) {
                return false;
            }
            next();
            return true;
        }

        /** The letter of the KIND that the WORD here is, 0 if it is none that can be told. */
        private int kindHere() {
            if (sign != AT_WORD || lettersOf(word) != 1) {
                return 0;
            }
            int b = LETTER_BASE + letterAt(word, 0);
            return isKind(b) && b != 'x' ? b : 0;
        }

        static boolean isKind(int b) {
            switch (b) {
                case 'n':
                case 'a':
                case 'v':
                case 'p':
                case 'd':
                case 'o':
                case 'x':
                    return true;
                default:
                    return false;
            }
        }

        void readLexicon(Pairs lexicon) {
            begin();
            next();
            for (int i = 0; i < TOKENS_MOST && fault == 0 && sign != AT_END; i++) {
                readLexiconLine(lexicon);
            }
        }

        private void readLexiconLine(Pairs lexicon) {
            int kind = kindHere();
            if (kind == 0) {
                refuse(CANT_STAND);
                return;
            }
            next();
            if (!passes(':') || !needs(AT_WORD)) {
                return;
            }
            for (int i = 0; i < TOKENS_MOST && sign == AT_WORD; i++) {
                if (!lexicon.set(word, kind)) {
                    refuse(TOO_MANY);
                    return;
                }
                next();
            }
            passes(';');
        }

        void readEndings(Pairs endings) {
            begin();
            endings.size = 0;
            next();
            for (int i = 0; i < TOKENS_MOST && fault == 0 && sign != AT_END; i++) {
                readEndingsLine(endings);
            }
        }

        private void readEndingsLine(Pairs endings) {
            if (!needs(AT_WORD)) {
                return;
            }
            if (endings.size >= ENDINGS_MOST) {
                refuse(TOO_MANY);
                return;
            }
            long ending = word;
            next();
            if (!passes('=')) {
                return;
            }
            long by = 0;
            if (sign == AT_WORD) {
                by = word;
                next();
            }
            if (passes(';')) {
                endings.add(ending, by);
            }
        }

        void readSame(Told told) {
            begin();
            told.same.size = 0;
            told.sameWords = 0;
            next();
            for (int i = 0; i < TOKENS_MOST && fault == 0 && sign != AT_END; i++) {
                readSameLine(told);
            }
        }

        private void readSameLine(Told told) {
            if (!takesSame(told)) {
                return;
            }
            long as = told.sameAs(word);
            next();
            if (!needs(AT_WORD)) {
                return;
            }
            for (int i = 0; i < TOKENS_MOST && sign == AT_WORD; i++) {
                if (!takesSame(told)) {
                    return;
                }
                told.tellSame(word, as);
                next();
            }
            passes(';');
        }

        private boolean takesSame(Told told) {
            if (!needs(AT_WORD)) {
                return false;
            }
            if (told.sameWords >= SAME_MOST) {
                refuse(TOO_MANY);
                return false;
            }
            told.sameWords++;
            return true;
        }

        /** SENTENCES come behind those that are there: no two of them have one number. */
        void readProse(Prose prose) {
            begin();
            int sentence = prose.nextSentence();
            next();
            for (int i = 0; i < TOKENS_MOST && fault == 0 && sign != AT_END; i++) {
                if (sign == '.') {
                    sentence++;
                } else if (needs(AT_WORD) && !prose.add(word, sentence)) {
                    refuse(TOO_MANY);
                }
                if (fault == 0) {
                    next();
                }
            }
        }

        void readPattern(Pattern pattern) {
            begin();
            nextByte();
            pattern.read(this);
        }
    }

    /** Pairs of WORDS, or of WORDS and KINDS, in the order told. */
    private static final class Pairs {
        final long[] left;
        final long[] right;
        int size;

        Pairs(int most) {
            left = longs(most);
            right = longs(most);
        }

        void copyFrom(Pairs other) {
            size = other.size;
            copy(other.left, left, size);
            copy(other.right, right, size);
        }

        boolean add(long one, long other) {
            if (size >= left.length) {
                return false;
            }
            put(left, size, one);
            put(right, size, other);
            size++;
            return true;
        }

        int indexOf(long one) {
            for (int i = 0; i < size; i++) {
                if (at(left, i) == one) {
                    return i;
                }
            }
            return NONE;
        }

        /** In place of what one had; false if it is new and there is no room. */
        boolean set(long one, long other) {
            int i = indexOf(one);
            if (i < 0) {
                return add(one, other);
            }
            put(right, i, other);
            return true;
        }
    }

    /** WORDS in SENTENCES. */
    private static final class Prose {
        final long[] words = longs(PROSE_MOST);
        final int[] sentences = ints(PROSE_MOST);
        int size;

        void copyFrom(Prose other) {
            size = other.size;
            copy(other.words, words, size);
            copy(other.sentences, sentences, size);
        }

        boolean add(long text, int sentence) {
            if (size >= PROSE_MOST) {
                return false;
            }
            put(words, size, text);
            put(sentences, size, sentence);
            size++;
            return true;
        }

        long wordAt(int i) {
            return at(words, i);
        }

        int nextSentence() {
            return size == 0 ? 0 : at(sentences, size - 1) + 1;
        }

        boolean oneSentence(int i, int j) {
            return i >= 0 && j >= 0 && i < size && j < size && at(sentences, i) == at(sentences, j);
        }

        void remove(int from, int count) {
            for (int i = from; i + count < size; i++) {
                put(words, i, at(words, i + count));
                put(sentences, i, at(sentences, i + count));
            }
            size -= count;
        }
    }

    /**
     * The PATTERN as its KINDS by number, which of them may come first, which last, and which
     * behind each. While it is read, a part of it is one int: the numbers that may come first
     * (lowest twelve bits), those that may come last (next twelve), and if it may be empty.
     */
    private static final class Pattern {
        private static final int EMPTY = 1 << 2 * KINDS_MOST;

        final int[] kinds = ints(KINDS_MOST);
        final int[] follow = ints(KINDS_MOST);
        int size;
        int first;
        int last;

        /** (a|n)*n */
        Pattern() {
            put(kinds, 0, 'a');
            put(kinds, 1, 'n');
            put(kinds, 2, 'n');
            put(follow, 0, 7);
            put(follow, 1, 7);
            size = 3;
            first = 7;
            last = 4;
        }

        void copyFrom(Pattern other) {
            size = other.size;
            copy(other.kinds, kinds, size);
            copy(other.follow, follow, size);
            first = other.first;
            last = other.last;
        }

        void read(Reader in) {
            size = 0;
            int whole = readAlt(in, 0);
            in.needs(AT_END);
            first = firstOf(whole);
            last = lastOf(whole);
        }

        private int readAlt(Reader in, int open) {
            int whole = readRow(in, open);
            for (int i = 0; i < TAPE_MOST && in.fault == 0 && in.sign == '|'; i++) {
                in.nextByte();
                whole |= readRow(in, open);
            }
            return whole;
        }

        private int readRow(Reader in, int open) {
            int whole = EMPTY;
            for (int i = 0; i < TAPE_MOST && in.fault == 0; i++) {
                if (in.sign == AT_END || in.sign == '|' || in.sign == ')') {
                    break;
                }
                whole = joined(whole, readItem(in, open));
            }
            return whole;
        }

        private int readItem(Reader in, int open) {
            int item = in.sign == '(' ? readGroup(in, open) : readKind(in);
            if (in.fault != 0) {
                return item;
            }
            boolean again = in.sign == '*' || in.sign == '+';
            boolean less = in.sign == '*' || in.sign == '?';
            if (again) {
                link(item, item);
            }
            if (again || less) {
                in.nextByte();
            }
            return less ? item | EMPTY : item;
        }

        private int readGroup(Reader in, int open) {
            if (open >= OPEN_MOST) {
                in.refuse(TOO_MANY);
                return 0;
            }
            in.nextByte();
            int group = readAlt(in, open + 1);
            if (in.needs(')')) {
                in.nextByte();
            }
            return group;
        }

        private int readKind(Reader in) {
            if (in.sign != '.' && !Reader.isKind(in.sign)) {
                in.refuse(CANT_STAND);
                return 0;
            }
            if (size >= KINDS_MOST) {
                in.refuse(TOO_MANY);
                return 0;
            }
            put(kinds, size, in.sign);
            put(follow, size, 0);
            int bit = 1 << size;
            size++;
            in.nextByte();
            return bit | bit << KINDS_MOST;
        }

        private static int firstOf(int part) {
            return part & KIND_MASK;
        }

        private static int lastOf(int part) {
            return part >>> KINDS_MOST & KIND_MASK;
        }

        private void link(int ahead, int behind) {
            int ends = lastOf(ahead);
            for (int p = 0; p < size && p < KINDS_MOST; p++) {
                if ((ends >>> p & 1) != 0) {
                    put(follow, p, at(follow, p) | firstOf(behind));
                }
            }
        }

        private int joined(int ahead, int behind) {
            link(ahead, behind);
            int starts = firstOf(ahead) | ((ahead & EMPTY) != 0 ? firstOf(behind) : 0);
            int ends = lastOf(behind) | ((behind & EMPTY) != 0 ? lastOf(ahead) : 0);
            return starts | ends << KINDS_MOST | ahead & behind & EMPTY;
        }

        /** Of the numbers in a set those that a WORD of a KIND can be. */
        private int taking(int set, int kind) {
            int some = 0;
            for (int p = 0; p < size && p < KINDS_MOST; p++) {
                int own = at(kinds, p);
                if ((set >>> p & 1) != 0 && (own == '.' || own == kind)) {
                    some |= 1 << p;
                }
            }
            return some;
        }

        /** What the first WORD of a row, of a KIND, can be. */
        int startBy(int kind) {
            return taking(first, kind);
        }

        /** What the next WORD, of a KIND, can be if the last one can be what stands in a set. */
        int goOn(int set, int kind) {
            int next = 0;
            for (int p = 0; p < size && p < KINDS_MOST; p++) {
                if ((set >>> p & 1) != 0) {
                    next |= at(follow, p);
                }
            }
            return taking(next, kind);
        }

        boolean endsWith(int set) {
            return (set & last) != 0;
        }
    }

    /** All that is told. */
    private static final class Told {
        final Pairs lexicon = new Pairs(LEXICON_MOST);
        final Pairs endings = new Pairs(ENDINGS_MOST);
        final Pairs same = new Pairs(SAME_MOST);
        final Prose docs = new Prose();
        final int[] docEnds = ints(DOCS_MOST);
        final Prose general = new Prose();
        final Pattern pattern = new Pattern();
        final int[] weights = ints(LENGTH_MOST + 1);
        int sameWords;
        int docCount;
        int least;
        int most;
        int wide;

        Told() {
            for (int length = 1; length <= LENGTH_MOST; length++) {
                put(weights, length, length);
            }
            least = 2;
            most = LENGTH_MOST;
            wide = 1;
        }

        void copyFrom(Told other) {
            lexicon.copyFrom(other.lexicon);
            endings.copyFrom(other.endings);
            same.copyFrom(other.same);
            docs.copyFrom(other.docs);
            copy(other.docEnds, docEnds, DOCS_MOST);
            general.copyFrom(other.general);
            pattern.copyFrom(other.pattern);
            copy(other.weights, weights, LENGTH_MOST + 1);
            sameWords = other.sameWords;
            docCount = other.docCount;
            least = other.least;
            most = other.most;
            wide = other.wide;
        }

        /** What a WORD is the SAME as, itself if none was told. */
        long sameAs(long text) {
            int i = same.indexOf(text);
            return i < 0 ? text : at(same.right, i);
        }

        void tellSame(long text, long as) {
            if (text != as && same.indexOf(text) < 0) {
                same.add(text, as);
            }
        }

        long baseOf(long text) {
            if (same.indexOf(text) >= 0) {
                return sameAs(text);
            }
            for (int i = 0; i < endings.size; i++) {
                long other = replaced(text, at(endings.left, i), at(endings.right, i));
                if (other != 0 && lexicon.indexOf(other) >= 0) {
                    return sameAs(other);
                }
            }
            return text;
        }

        int kindOf(long text, long base) {
            int i = lexicon.indexOf(text);
            if (i < 0) {
                i = lexicon.indexOf(base);
            }
            return i < 0 ? 'x' : (int) at(lexicon.right, i);
        }

        void closeDoc() {
            put(docEnds, docCount, docs.size);
            docCount++;
        }

        void removeDoc(int doc) {
            int count = docSize(doc);
            docs.remove(docFirst(doc), count);
            for (int d = doc; d + 1 < docCount; d++) {
                put(docEnds, d, at(docEnds, d + 1) - count);
            }
            docCount--;
        }

        int docFirst(int doc) {
            return at(docEnds, doc - 1);
        }

        int docSize(int doc) {
            return at(docEnds, doc) - docFirst(doc);
        }

        int docSentences(int doc) {
            int first = docFirst(doc);
            int sentences = 0;
            for (int i = first; i < at(docEnds, doc) && i < PROSE_MOST; i++) {
                if (i == first || !docs.oneSentence(i - 1, i)) {
                    sentences++;
                }
            }
            return sentences;
        }

        /** Where WORD i of a DOC stands among those of all DOCS. */
        int placeOf(int doc, int i) {
            if (doc < 0 || doc >= docCount || i < 0 || i >= docSize(doc)) {
                return NONE;
            }
            return docFirst(doc) + i;
        }

        int docAt(int place) {
            int doc = 0;
            while (doc < DOCS_MOST - 1 && place >= at(docEnds, doc)) {
                doc++;
            }
            return doc;
        }
    }

    /** Sorts numbers 0 to n - 1: two rows sorted are merged, from short ones to the whole. */
    private abstract static class Order {
        final int[] order = ints(MATCHES_MOST);
        private final int[] spare = ints(MATCHES_MOST);

        abstract boolean ahead(int a, int b);

        void sort(int n) {
            for (int i = 0; i < n; i++) {
                put(order, i, i);
            }
            for (int width = 1; width < n && width < MATCHES_MOST; width = width * 2) {
                for (int low = 0; low < n; low += 2 * width) {
                    merge(low, Math.min(low + width, n), Math.min(low + 2 * width, n));
                }
                copy(spare, order, n);
            }
        }

        private void merge(int low, int middle, int high) {
            int left = low;
            int right = middle;
            for (int i = low; i < high; i++) {
                boolean takeLeft = right >= high
                        || left < middle && !ahead(at(order, right), at(order, left));
                put(spare, i, at(order, takeLeft ? left : right));
                if (takeLeft) {
                    left++;
                } else {
                    right++;
                }
            }
        }
    }

    /** Of each WORD of the DOCS its BASE and KIND; the unlike BASES and WORDS, numbered by letters. */
    private static final class Bases {
        final long[] base = longs(PROSE_MOST);
        final int[] kind = ints(PROSE_MOST);
        final int[] id = ints(PROSE_MOST);
        final int[] form = ints(PROSE_MOST);
        final int[] generalId = ints(PROSE_MOST);
        final long[] unlike = longs(PROSE_MOST);
        final long[] unlikeForms = longs(PROSE_MOST);
        int size;

        void build(Told told) {
            int forms = 0;
            size = 0;
            for (int i = 0; i < told.docs.size; i++) {
                long text = told.docs.wordAt(i);
                long own = told.baseOf(text);
                put(base, i, own);
                put(kind, i, told.kindOf(text, own));
                size = insert(unlike, size, own);
                forms = insert(unlikeForms, forms, text);
            }
            for (int i = 0; i < told.docs.size; i++) {
                put(id, i, idOf(at(base, i)));
                put(form, i, exact(unlikeForms, forms, told.docs.wordAt(i)));
            }
            for (int i = 0; i < told.general.size; i++) {
                put(generalId, i, idOf(told.baseOf(told.general.wordAt(i))));
            }
        }

        /** NONE for one that no WORD of the DOCS has. */
        int idOf(long own) {
            return exact(unlike, size, own);
        }
    }

    /** The MATCHES, in their order; sorted by TERM, then by form. */
    private static final class Matches extends Order {
        final int[] first = ints(MATCHES_MOST);
        final int[] length = ints(MATCHES_MOST);
        final int[] term = ints(MATCHES_MOST);
        final int[] within = ints(MATCHES_MOST);
        final long[] row = longs(MATCHES_MOST);
        final long[] form = longs(MATCHES_MOST);
        int size;

        void build(Told told, Bases bases) {
            size = 0;
            for (int i = 0; i < told.docs.size; i++) {
                addFrom(told, bases, i);
            }
            markWithin();
            sort(size);
        }

        private void addFrom(Told told, Bases bases, int start) {
            long rowSoFar = 0;
            long formSoFar = 0;
            int set = 0;
            for (int n = 0; n < told.most && n < LENGTH_MOST; n++) {
                int i = start + n;
                if (!told.docs.oneSentence(start, i)) {
                    return;
                }
                int kind = at(bases.kind, i);
                set = n == 0 ? told.pattern.startBy(kind) : told.pattern.goOn(set, kind);
                rowSoFar |= cell(at(bases.id, i), n);
                formSoFar |= cell(at(bases.form, i), n);
                if (n + 1 >= told.least && told.pattern.endsWith(set)) {
                    add(start, n + 1, rowSoFar, formSoFar);
                }
            }
        }

        private void add(int start, int words, long bases, long forms) {
            if (size >= MATCHES_MOST) {
                return;
            }
            put(first, size, start);
            put(length, size, words);
            put(row, size, bases);
            put(form, size, forms);
            size++;
        }

        /**
         * One is within a longer one if one of the same first WORD comes behind it, or if one of
         * an earlier first WORD reaches as far. None reaches out of its DOC.
         */
        private void markWithin() {
            int reach = 0;
            int reachHere = 0;
            for (int m = 0; m < size; m++) {
                if (m > 0 && at(first, m) != at(first, m - 1)) {
                    reach = Math.max(reach, reachHere);
                }
                reachHere = at(first, m) + at(length, m);
                boolean more = m + 1 < size && at(first, m + 1) == at(first, m);
                put(within, m, more || reach >= reachHere ? 1 : 0);
            }
        }

        boolean ahead(int a, int b) {
            long rowA = at(row, a);
            long rowB = at(row, b);
            return rowA != rowB ? rowA < rowB : at(form, a) < at(form, b);
        }

        int startingIn(int from, int to) {
            int many = 0;
            for (int m = 0; m < size; m++) {
                if (at(first, m) >= from && at(first, m) < to) {
                    many++;
                }
            }
            return many;
        }
    }

    /** The TERMS by number, and what is told of each. */
    private static final class Terms {
        final Bases bases;
        final Matches matches;
        final long[] row = longs(MATCHES_MOST);
        final int[] start = ints(MATCHES_MOST);
        final int[] count = ints(MATCHES_MOST);
        final int[] free = ints(MATCHES_MOST);
        final int[] longer = ints(MATCHES_MOST);
        final int[] taken = ints(MATCHES_MOST);
        final int[] forms = ints(MATCHES_MOST);
        final int[] common = ints(MATCHES_MOST);
        final int[] first = ints(MATCHES_MOST);
        final int[] general = ints(MATCHES_MOST);
        final int[] docs = ints(MATCHES_MOST);
        final int[] unlikeAround = ints(MATCHES_MOST);
        final int[] near = ints(MATCHES_MOST);
        final int[] seen = ints(MATCHES_MOST);
        final int[] likelyTerms = ints(PROSE_MOST);
        final int[] tally = ints(PROSE_MOST);
        final int[] beside = ints(2 * WIDE_MOST);
        int size;

        Terms(Bases bases, Matches matches) {
            this.bases = bases;
            this.matches = matches;
        }

        void build(Told told) {
            gather(told);
            countLonger();
            countGeneral(told);
            countAround(told);
            sumNear(told);
        }

        /** MATCHES of one TERM stand together in their order, those of one form too. */
        private void gather(Told told) {
            size = 0;
            int run = 0;
            int best = 0;
            for (int k = 0; k < matches.size; k++) {
                int m = at(matches.order, k);
                int before = at(matches.order, k - 1);
                boolean newTerm = k == 0 || at(matches.row, m) != at(matches.row, before);
                boolean newForm = newTerm || at(matches.form, m) != at(matches.form, before);
                if (newTerm) {
                    open(m, k);
                    best = 0;
                }
                int t = size - 1;
                run = newForm ? 1 : run + 1;
                if (run > best) {
                    best = run;
                    put(common, t, m);
                }
                put(forms, t, at(forms, t) + (newForm ? 1 : 0));
                take(told, t, m);
            }
        }

        private void open(int m, int k) {
            int t = size;
            put(row, t, at(matches.row, m));
            put(start, t, k);
            put(first, t, m);
            put(count, t, 0);
            put(free, t, 0);
            put(longer, t, 0);
            put(taken, t, 0);
            put(forms, t, 0);
            put(general, t, 0);
            put(docs, t, 0);
            put(unlikeAround, t, 0);
            put(near, t, 0);
            put(seen, t, NONE);
            size++;
        }

        private void take(Told told, int t, int m) {
            put(matches.term, m, t);
            put(count, t, at(count, t) + 1);
            put(free, t, at(free, t) + 1 - at(matches.within, m));
            put(first, t, Math.min(at(first, t), m));
            put(docs, t, at(docs, t) | 1 << told.docAt(at(matches.first, m)));
        }

        /** Each TERM is one of the LONGER for the TERMS that parts of its row are, for each once. */
        private void countLonger() {
            for (int t = 0; t < size; t++) {
                int length = lengthOf(t);
                for (int words = 1; words < length; words++) {
                    for (int from = 0; from + words <= length; from++) {
                        int inner = placeOf(part(at(row, t), from, words));
                        if (inner >= 0 && at(seen, inner) != t) {
                            put(seen, inner, t);
                            put(longer, inner, at(longer, inner) + 1);
                            put(taken, inner, at(taken, inner) + at(count, t));
                        }
                    }
                }
            }
        }

        private void countGeneral(Told told) {
            for (int i = 0; i < told.general.size; i++) {
                long here = 0;
                for (int n = 0; n < LENGTH_MOST; n++) {
                    boolean on = told.general.oneSentence(i, i + n);
                    int id = on ? at(bases.generalId, i + n) : NONE;
                    if (id < 0) {
                        break;
                    }
                    here |= cell(id, n);
                    int t = placeOf(here);
                    if (t >= 0) {
                        put(general, t, at(general, t) + 1);
                    }
                }
            }
        }

        private void countAround(Told told) {
            clear(likelyTerms, PROSE_MOST);
            clear(tally, PROSE_MOST);
            for (int t = 0; t < size; t++) {
                for (int k = 0; k < at(count, t); k++) {
                    int many = findBeside(told, matchOf(t, k));
                    for (int j = 0; j < many; j++) {
                        int id = at(beside, j);
                        // the tally keeps the latest TERM (and 1) that a BASE was AROUND
                        if (at(tally, id) != t + 1) {
                            put(tally, id, t + 1);
                            put(likelyTerms, id, at(likelyTerms, id) + 1);
                            put(unlikeAround, t, at(unlikeAround, t) + 1);
                        }
                    }
                }
            }
        }

        /** LIKELY together of all AROUND each TERM, each time, before it is divided by how many TERMS there are. */
        private void sumNear(Told told) {
            for (int m = 0; m < matches.size; m++) {
                int t = at(matches.term, m);
                int many = findBeside(told, m);
                for (int j = 0; j < many; j++) {
                    put(near, t, at(near, t) + at(likelyTerms, at(beside, j)));
                }
            }
        }

        /** Finds the BASES AROUND one MATCH; how many. */
        private int findBeside(Told told, int m) {
            int from = at(matches.first, m);
            int last = from + at(matches.length, m) - 1;
            int many = 0;
            for (int n = 1; n <= told.wide && n <= WIDE_MOST; n++) {
                if (told.docs.oneSentence(from - n, from)) {
                    put(beside, many, at(bases.id, from - n));
                    many++;
                }
                if (told.docs.oneSentence(last, last + n)) {
                    put(beside, many, at(bases.id, last + n));
                    many++;
                }
            }
            return many;
        }

        /** The k-th MATCH of a TERM, form by form. */
        int matchOf(int t, int k) {
            return at(matches.order, at(start, t) + k);
        }

        int lengthOf(int t) {
            return cellsOf(at(row, t));
        }

        int placeOf(long bases) {
            return exact(row, size, bases);
        }

        int inDoc(int doc) {
            int many = 0;
            for (int t = 0; t < size; t++) {
                many += at(docs, t) >>> doc & 1;
            }
            return many;
        }

        int toldOf(int t, int what) {
            switch (what) {
                case 0:
                    return at(count, t);
                case 1:
                    return at(free, t);
                case 2:
                    return at(longer, t);
                case 3:
                    return at(taken, t);
                case 4:
                    return at(forms, t);
                case 5:
                    return at(general, t);
                case 6:
                    return lengthOf(t);
                case 7:
                    return at(docs, t);
                case 8:
                    return at(unlikeAround, t);
                case 9:
                    return at(first, t);
                default:
                    return NONE;
            }
        }

        int longerAt(int t, int i) {
            int many = 0;
            for (int other = 0; other < size; other++) {
                if (lengthOf(other) > lengthOf(t) && holds(at(row, other), at(row, t))) {
                    if (many == i) {
                        return other;
                    }
                    many++;
                }
            }
            return NONE;
        }

        /** The number of the i-th BASE AROUND a TERM; how often each is, the tally keeps then. */
        int baseAround(Told told, int t, int i) {
            clear(tally, PROSE_MOST);
            for (int k = 0; k < at(count, t); k++) {
                int many = findBeside(told, matchOf(t, k));
                for (int j = 0; j < many; j++) {
                    int id = at(beside, j);
                    put(tally, id, at(tally, id) + 1);
                }
            }
            return tallied(i);
        }

        /** The number of the i-th BASE in the tally. */
        int tallied(int i) {
            int many = 0;
            for (int id = 0; id < bases.size; id++) {
                if (at(tally, id) > 0) {
                    if (many == i) {
                        return id;
                    }
                    many++;
                }
            }
            return NONE;
        }

        int likelyOf(int id) {
            return at(likelyTerms, id);
        }

        private int lastOf(int t) {
            return idIn(at(row, t), lengthOf(t) - 1);
        }

        /** How many TERMS have each last WORD, the tally keeps then; how many unlike ones they are. */
        int tallyHeads() {
            clear(tally, PROSE_MOST);
            int heads = 0;
            for (int t = 0; t < size; t++) {
                int id = lastOf(t);
                if (at(tally, id) == 0) {
                    heads++;
                }
                put(tally, id, at(tally, id) + 1);
            }
            return heads;
        }

        int headTold(int id, int what) {
            if (what == 0) {
                return at(tally, id);
            }
            int together = 0;
            int earliest = NONE;
            for (int t = 0; t < size; t++) {
                if (lastOf(t) == id) {
                    together += at(count, t);
                    earliest = earliest < 0 ? t : earliest;
                }
            }
            if (what == 1) {
                return together;
            }
            return what == 2 ? earliest : NONE;
        }
    }

    /** MEASURES of the TERMS, and the RANKS by each. */
    private static final class Measures extends Order {
        final Terms terms;
        final long[] aboves = longs(MATCHES_MOST);
        final long[] belows = longs(MATCHES_MOST);
        final int[] ranks = ints(MEASURES * MATCHES_MOST);
        int ready;
        long above;
        long below = 1;

        Measures(Terms terms) {
            this.terms = terms;
        }

        /** A FRACTION in lowest terms; 0 by 1 if there is nothing to divide by. */
        void set(long over, long under) {
            long divisor = greatestDivisor(over, under);
            if (under <= 0 || divisor <= 0) {
                above = 0;
                below = 1;
                return;
            }
            above = over / divisor;
            below = under / divisor;
        }

        void weigh(Told told, int t, int measure) {
            switch (measure) {
                case 0:
                    set(at(terms.count, t), 1);
                    break;
                case 1:
                    set(at(terms.free, t), 1);
                    break;
                case 2:
                    set(worthAbove(told, t), worthBelow(t));
                    break;
                case 3:
                    set(oddAbove(told, t), oddBelow(told, t));
                    break;
                case 4:
                    set(worthAbove(told, t) * oddAbove(told, t), worthBelow(t) * oddBelow(told, t));
                    break;
                case 5:
                    setNear(told, t);
                    break;
                default:
                    set(Integer.bitCount(at(terms.docs, t)), 1);
                    break;
            }
        }

        private long worthAbove(Told told, int t) {
            long weight = at(told.weights, terms.lengthOf(t));
            return weight * (at(terms.count, t) * worthBelow(t) - at(terms.taken, t));
        }

        /** How many LONGER there are; 1 without, for then none is TAKEN. */
        private long worthBelow(int t) {
            return Math.max(1, at(terms.longer, t));
        }

        private long oddAbove(Told told, int t) {
            return (long) at(terms.count, t) * (told.general.size + 1);
        }

        private long oddBelow(Told told, int t) {
            return (long) (at(terms.general, t) + 1) * (told.docs.size + 1);
        }

        private void setNear(Told told, int t) {
            long many = terms.size;
            long under = worthBelow(t);
            set(4 * worthAbove(told, t) * many + at(terms.near, t) * under, 5 * under * many);
        }

        void prepare(Told told, int measure) {
            if ((ready >>> measure & 1) != 0) {
                return;
            }
            for (int t = 0; t < terms.size; t++) {
                weigh(told, t, measure);
                put(aboves, t, above);
                put(belows, t, below);
            }
            sort(terms.size);
            for (int r = 0; r < terms.size; r++) {
                put(ranks, measure * MATCHES_MOST + r, at(order, r));
            }
            ready |= 1 << measure;
        }

        /**
         * By cross products. The greatest is of WORTH times ODD: a TERM has under 960 LONGER and a
         * COUNT up to 240, so it is below 9 * 240 * 960 * 240 * 241 over one below
         * 960 * 241 * 241: their product is less than 2 to the 63rd.
         */
        boolean ahead(int a, int b) {
            long left = at(aboves, a) * at(belows, b);
            long right = at(aboves, b) * at(belows, a);
            if (left != right) {
                return left > right;
            }
            int countA = at(terms.count, a);
            int countB = at(terms.count, b);
            return countA != countB ? countA > countB : a < b;
        }

        int termAt(int measure, int r) {
            return at(ranks, measure * MATCHES_MOST + r);
        }

        int rankOf(int measure, int t) {
            for (int r = 0; r < terms.size; r++) {
                if (termAt(measure, r) == t) {
                    return r;
                }
            }
            return NONE;
        }

        /** How many WORDS lie in MATCHES of the first n TERMS. */
        int coveredBy(int measure, int n) {
            clear(terms.tally, PROSE_MOST);
            int many = 0;
            for (int r = 0; r < n && r < terms.size; r++) {
                int t = termAt(measure, r);
                for (int k = 0; k < at(terms.count, t); k++) {
                    many += coverOne(terms.matchOf(t, k));
                }
            }
            return many;
        }

        /** How many WORDS lie in one MATCH that lay in none before. */
        private int coverOne(int m) {
            int from = at(terms.matches.first, m);
            int length = at(terms.matches.length, m);
            int many = 0;
            for (int i = from; i < from + length; i++) {
                many += 1 - at(terms.tally, i);
                put(terms.tally, i, 1);
            }
            return many;
        }
    }
}
