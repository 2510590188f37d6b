import java.util.NoSuchElementException;

/** Editable bit rows answering rank and select; see README.md. */
public final class BitRopes {
    public static final int NONE = -1;

    private static final int MOST_TAPE = 940;
    private static final int MOST_ROOM_BYTES = 900;
    private static final int MOST_BOOK_BYTES = 400;
    private static final int MOST_SENTENCE_BYTES = 200;
    private static final int MOST_BITS = 600;
    private static final int MOST_ROWS = 4;
    private static final int MOST_LETTERS = 200;
    private static final int MOST_LINES = 40;
    private static final int MOST_ONES = 20;
    private static final int MOST_WITHIN = 8;
    private static final int MOST_KEPT = 8;
    private static final int MOST_SOUGHT = 32;
    private static final int MOST_PASTED = 64;
    private static final int MOST_DEEDS = 60;
    private static final int KINDS_OF_LETTERS = 8;
    private static final int NODES = 7;
    private static final int IMAGES = 2;
    private static final int USUAL_LOW = 8;
    private static final int LEAST_LOW = 4;
    private static final int MOST_LOW = 32;
    // A leaf beside others never has fewer than LOW bits, and one is over while two are being made of it.
    private static final int MOST_LEAVES = MOST_BITS / LEAST_LOW + 2;
    // Each ONE gives one step at most, and each but the first may bring one 'and' or 'or'.
    private static final int MOST_STEPS = 2 * MOST_ONES;

    private static final int CANNOT_COME = 1;
    private static final int NOT_AS_TOLD = 2;
    private static final int WRONG_NAME = 3;
    private static final int TOO_MANY = 4;

    private static final int AT_END = 0;
    private static final int NO_TOKEN = 1;
    private static final int A_WORD = 2;
    private static final int A_NUMBER = 3;
    private static final int A_SIGN = 4;

    private static final int OTHER = 0;
    private static final int DEED = 1;
    private static final int ONE = 2;

    private static final int FLOAT_DIGITS = 24;
    private static final int FLOAT_BIAS = 127;
    private static final int DOUBLE_DIGITS = 53;
    private static final int DOUBLE_BIAS = 1023;

    private final int[] tape = new int[MOST_TAPE];
    private int tapeSize;
    private final Reader reader = new Reader();
    private State now = new State();
    // Takes a ROOM while it is read, and what was so ahead of a BOOK or of DEEDS that are drawn.
    private State spare = new State();
    private Sentence spoken = new Sentence();
    private Sentence spareSpoken = new Sentence();
    private final Book lines = new Book();
    private final History history = new History();
    private final State[] imageStates = new State[IMAGES];
    private final Sentence[] imageSentences = new Sentence[IMAGES];
    private final int[] found = new int[MOST_BITS];
    private int foundCount;
    private int latestFault;
    private final int[] toldOf = {NONE, NONE, NONE, NONE};

    public BitRopes() {
    }

    public int feed(int a, int b, int c, int d, int e) {
        if (tapeSize + 20 > MOST_TAPE) {
            return NONE;
        }
        feedBytes(a);
        feedBytes(b);
        feedBytes(c);
        feedBytes(d);
        feedBytes(e);
        return tapeSize;
    }

    private void feedBytes(int four) {
        for (int shift = 24; shift >= 0 && tapeSize < MOST_TAPE; shift -= 8) {
            tape[tapeSize] = (four >>> shift) & 255;
            tapeSize++;
        }
    }

    public boolean end(int n) {
        if (n < 0 || n > tapeSize) {
            return false;
        }
        tapeSize = n;
        return true;
    }

    public int room() {
        reader.open(tape, tapeSize, MOST_ROOM_BYTES);
        int told = spare.readLines(reader);
        if (closesWithFault()) {
            return -1 - reader.place;
        }
        swapStates();
        spoken.clear();
        history.forget();
        return told;
    }

    private boolean closesWithFault() {
        tapeSize = 0;
        latestFault = reader.fault;
        return latestFault != 0;
    }

    private void swapStates() {
        State other = now;
        now = spare;
        spare = other;
    }

    public int fault() {
        return latestFault;
    }

    public int size(int r) {
        Row row = now.rowAt(r);
        return row == null ? NONE : row.length;
    }

    public int bit(int r, int i) {
        Row row = now.rowAt(r);
        return row == null ? NONE : row.bitAt(i);
    }

    public int rank(int r, int i, int b) {
        Row row = now.rowAt(r);
        if (row == null || !isBit(b) || !row.hasGap(i)) {
            return NONE;
        }
        return row.countIn(0, i, b);
    }

    private static boolean isBit(int b) {
        return b == 0 || b == 1;
    }

    public int select(int r, int k, int b) {
        Row row = now.rowAt(r);
        if (row == null || !isBit(b) || k < 0) {
            return NONE;
        }
        return row.placeOf(k, b);
    }

    public int find(int r, int i, int b) {
        Row row = now.rowAt(r);
        if (row == null || !isBit(b) || i < 0) {
            return NONE;
        }
        return row.nextPlace(i, b);
    }

    public int runs(int r) {
        Row row = now.rowAt(r);
        return row == null ? NONE : row.runCount();
    }

    public int longest(int r, int b) {
        Row row = now.rowAt(r);
        if (row == null || !isBit(b)) {
            return NONE;
        }
        return row.longestRun(b);
    }

    public int word(int r, int i) throws NoSuchElementException {
        Row row = now.rowAt(r);
        if (row == null || !row.hasGap(i)) {
            throw new NoSuchElementException("no such row or place");
        }
        return row.wordFrom(i);
    }

    public int leaves(int r) {
        Row row = now.rowAt(r);
        return row == null ? NONE : row.leafCount;
    }

    public int leaf(int r, int k, int what) {
        Row row = now.rowAt(r);
        if (row == null || k < 0 || k >= row.leafCount || k >= MOST_LEAVES) {
            return NONE;
        }
        switch (what) {
            case 0:
                return row.leafSizes[k];
            case 1:
                return row.countIn(row.leafStart(k), row.leafSizes[k], 1);
            case 2:
                return row.leafStart(k);
            default:
                return NONE;
        }
    }

    public int tree(int r, int what) {
        Row row = now.rowAt(r);
        if (row == null) {
            return NONE;
        }
        switch (what) {
            case 0:
                return Tree.height(row.leafCount);
            case 1:
                return Tree.inner(row.leafCount);
            case 2:
                return Tree.mixed(row.leafCount);
            case 3:
                return Tree.cost(row);
            default:
                return NONE;
        }
    }

    public int dense(int r, int i, int n) throws NoSuchElementException {
        Row row = now.rowAt(r);
        if (row == null || n < 1 || !row.hasRange(i, n)) {
            throw new NoSuchElementException("no such row or bits");
        }
        return (int) Fraction.asBits(row.countIn(i, n, 1), n, FLOAT_DIGITS, FLOAT_BIAS);
    }

    public int load(int r) throws NoSuchElementException {
        Row row = now.rowAt(r);
        if (row == null || row.length == 0) {
            throw new NoSuchElementException("no such row or no bits");
        }
        return (int) Fraction.asBits(32 * Tree.cost(row), row.length, FLOAT_DIGITS, FLOAT_BIAS);
    }

    public int centre(int r, int half) throws NoSuchElementException {
        Row row = now.rowAt(r);
        int ones = row == null ? 0 : row.countIn(0, row.length, 1);
        if (row == null || ones == 0 || !isBit(half)) {
            throw new NoSuchElementException("no such row, half or ones");
        }
        long bits = Fraction.asBits(row.sumOfPlaces(), ones, DOUBLE_DIGITS, DOUBLE_BIAS);
        return half == 0 ? (int) (bits >>> 32) : (int) bits;
    }

    public int apart(int r, int s) {
        Row one = now.rowAt(r);
        Row other = now.rowAt(s);
        return one == null || other == null ? NONE : one.unlikeBits(other);
    }

    public int differ(int r, int s) {
        Row one = now.rowAt(r);
        Row other = now.rowAt(s);
        return one == null || other == null ? NONE : one.firstUnlike(other);
    }

    public int seek(int r) {
        int n = takeBitsOfTape(MOST_SOUGHT);
        Row row = now.rowAt(r);
        if (row == null || n == NONE) {
            return NONE;
        }
        foundCount = 0;
        for (int i = 0; i + n <= row.length && foundCount < MOST_BITS; i++) {
            if (row.hasAt(i, tape, n)) {
                found[foundCount] = i;
                foundCount++;
            }
        }
        return foundCount;
    }

    /** Empties the tape, whose bytes stay to be read until the next feed; how many bits it had, or NONE. */
    private int takeBitsOfTape(int most) {
        int n = tapeSize;
        tapeSize = 0;
        if (n < 1 || n > most) {
            return NONE;
        }
        for (int k = 0; k < n; k++) {
            if (!isBit(tape[k])) {
                return NONE;
            }
        }
        return n;
    }

    public int seekAt(int k) {
        return k < 0 || k >= foundCount || k >= MOST_BITS ? NONE : found[k];
    }

    public int put(int r, int i, int b) {
        if (now.rowAt(r) == null || !isBit(b)) {
            return NONE;
        }
        return does(Word.PUT, r, i, b);
    }

    /** Does a deed and keeps what was so ahead of it: 0, or why not. */
    private int does(Word deed, int a, int b, int c) {
        int why = now.whyNot(deed, a, b, c);
        if (why == 0) {
            history.keep(now);
            now.act(deed, a, b, c);
        }
        return why;
    }

    public int set(int r, int i, int b) {
        if (now.rowAt(r) == null || !isBit(b)) {
            return NONE;
        }
        return does(Word.SET, r, i, b);
    }

    public int cut(int r, int i, int n) {
        if (now.rowAt(r) == null || n < 1 || n > MOST_BITS) {
            return NONE;
        }
        return does(Word.CUT, r, i, n);
    }

    public int turn(int r, int i, int n) {
        if (now.rowAt(r) == null || n < 1 || n > MOST_BITS) {
            return NONE;
        }
        return does(Word.TURN, r, i, n);
    }

    public int paste(int r, int i) {
        int n = takeBitsOfTape(MOST_PASTED);
        Row row = now.rowAt(r);
        if (row == null || n == NONE) {
            return NONE;
        }
        if (!row.hasGap(i)) {
            return 1;
        }
        if (row.length + n > MOST_BITS) {
            return 2;
        }
        history.keep(now);
        for (int k = 0; k < n; k++) {
            row.insert(i + k, tape[k], now.low);
        }
        return 0;
    }

    public int join(int r, int s) {
        if (now.rowAt(r) == null || now.rowAt(s) == null || r == s) {
            return NONE;
        }
        return does(Word.JOIN, r, s, 0);
    }

    public int split(int r, int i, int s) {
        if (now.rowAt(r) == null || now.rowAt(s) == null || r == s) {
            return NONE;
        }
        return does(Word.SPLIT, r, i, s);
    }

    public int letters() {
        return now.script.length;
    }

    public int letter(int i) {
        return now.script.signAt(i);
    }

    public int count(int c, int i) {
        if (!isLetter(c) || i < 0 || i > now.script.length) {
            return NONE;
        }
        return now.script.countIn(0, i, c);
    }

    private static boolean isLetter(int c) {
        return c >= 0 && c < KINDS_OF_LETTERS;
    }

    public int place(int c, int k) {
        return !isLetter(c) || k < 0 ? NONE : now.script.placeOf(c, k);
    }

    public int least(int i, int j, int k) {
        if (i < 0 || j < i || j > now.script.length || k < 0) {
            return NONE;
        }
        return now.script.leastOf(i, j, k);
    }

    public int node(int n, int i) {
        return n < 0 || n >= NODES || i < 0 ? NONE : now.script.nodeBit(n, i);
    }

    public int type(int i, int c) {
        return isLetter(c) ? does(Word.TYPE, i, c, 0) : NONE;
    }

    public int erase(int i, int n) {
        return n < 1 || n > MOST_LETTERS ? NONE : does(Word.ERASE, i, n, 0);
    }

    public int undo() {
        return history.bringBack(now) ? history.kept : NONE;
    }

    public int drawn(int n, int seed) {
        if (n < 1 || n > MOST_DEEDS) {
            return NONE;
        }
        spare.copyFrom(now);
        Draws draws = new Draws(seed);
        int done = 0;
        for (int k = 0; k < n; k++) {
            done += draws.deedOn(now) ? 1 : 0;
        }
        if (done > 0) {
            history.keep(spare);
        }
        return done;
    }

    public int book(int lives) {
        if (lives != 0 && lives != 1) {
            return -1000;
        }
        reader.open(tape, tapeSize, MOST_BOOK_BYTES);
        lines.readLines(reader, now);
        if (closesWithFault()) {
            return -2 - reader.place;
        }
        spare.copyFrom(now);
        int done = lines.liveOn(now);
        toldOf[0] = lines.wrong;
        toldOf[1] = done;
        toldOf[2] = now.allBits();
        toldOf[3] = now.script.length;
        if (lives == 0) {
            swapStates();
        } else if (done > 0) {
            history.keep(spare);
        }
        return lines.wrong == 0 ? NONE : done;
    }

    public int told(int what) {
        return what < 0 || what >= toldOf.length ? NONE : toldOf[what];
    }

    public int sentence() {
        reader.open(tape, tapeSize, MOST_SENTENCE_BYTES);
        spareSpoken.readAll(reader, now);
        if (closesWithFault()) {
            return -1 - reader.place;
        }
        Sentence other = spoken;
        spoken = spareSpoken;
        spareSpoken = other;
        return spoken.ones;
    }

    public int said(int k) {
        if (spoken.ones == 0 || k < NONE) {
            return NONE;
        }
        int such = 0;
        for (int r = 0; r < now.rowCount; r++) {
            if (spoken.isTrueOf(now, r)) {
                if (such == k) {
                    return r;
                }
                such++;
            }
        }
        return k == NONE ? such : NONE;
    }

    public boolean image(int k) {
        if (k < 0 || k >= IMAGES) {
            return false;
        }
        // Made when first asked for: most objects are used without images.
        if (imageStates[k] == null) {
            imageStates[k] = new State();
        }
        if (imageSentences[k] == null) {
            imageSentences[k] = new Sentence();
        }
        imageStates[k].copyFrom(now);
        imageSentences[k].copyFrom(spoken);
        return true;
    }

    public boolean restore(int k) {
        if (k < 0 || k >= IMAGES || imageStates[k] == null || imageSentences[k] == null) {
            return false;
        }
        now.copyFrom(imageStates[k]);
        spoken.copyFrom(imageSentences[k]);
        history.forget();
        return true;
    }

    public int total(int what) {
        switch (what) {
            case 0:
                return now.rowCount;
            case 1:
                return now.low;
            case 2:
                return now.allBits();
            case 3:
                return tapeSize;
            default:
                return NONE;
        }
    }

    /** The words that the texts tell, none of which may be a NAME. */
    private enum Word {
        LEAF("leaf", OTHER, 0), ROW("row", OTHER, 0), LETTERS("letters", OTHER, 0),
        PUT("put", DEED, 0), SET("set", DEED, 10), CUT("cut", DEED, 20), TURN("turn", DEED, 30),
        JOIN("join", DEED, 40), SPLIT("split", DEED, 50), TYPE("type", DEED, 60), ERASE("erase", DEED, 70),
        OR("or", OTHER, 0), AND("and", OTHER, 0),
        NOT("not", ONE, 0), EMPTY("empty", ONE, 0), EVEN("even", ONE, 0), LIKE("like", ONE, 0),
        BEGINS("begins", ONE, 0), SIZE("size", ONE, 0), ONES("ones", ONE, 0), RUNS("runs", ONE, 0),
        LEAVES("leaves", ONE, 0), NUMBER("number", ONE, 0);

        private static final Word[] ALL = values();

        // The letters as one number, five bits for each: so a WORD of a text is told from others at once.
        final long code;
        final int sort;
        // What told() adds to the reason why a DEED could not be done.
        final int base;

        Word(String text, int sort, int base) {
            long letters = 0;
            for (int k = 0; k < text.length(); k++) {
                letters = letters * 32 + (text.charAt(k) - 'a' + 1);
            }
            this.code = letters;
            this.sort = sort;
            this.base = base;
        }

        static Word withCode(long code) {
            for (int k = 0; k < ALL.length; k++) {
                if (ALL[k].code == code) {
                    return ALL[k];
                }
            }
            return null;
        }
    }

    /** Reads a text TOKEN by TOKEN and keeps the first FAULT. */
    private static final class Reader {
        private int[] bytes = new int[0];
        private int length;
        private int most;
        private int next;
        int kind;
        int at;
        int number;
        int sign;
        long code;
        Word word;
        int fault;
        int place;

        void open(int[] text, int size, int mostBytes) {
            bytes = text;
            length = size < text.length ? size : text.length;
            most = mostBytes;
            next = 0;
            fault = 0;
            place = 0;
            advance();
        }

        void advance() {
            int limit = length < most ? length : most;
            while (next < limit && (bytes[next] == ' ' || bytes[next] == '\n')) {
                next++;
            }
            word = null;
            if (next >= limit) {
                // A text that is too long does not end here: nothing may come at the first byte too many.
                at = limit;
                kind = length > most ? NO_TOKEN : AT_END;
                return;
            }
            at = next;
            readLettersAndDigits();
            if (next == at) {
                sign = bytes[next];
                kind = isSign(sign) ? A_SIGN : NO_TOKEN;
                next++;
            }
            word = kind == A_WORD ? Word.withCode(code) : null;
        }

        private void readLettersAndDigits() {
            int letters = 0;
            int digits = 0;
            code = 0;
            number = 0;
            for (; next < length; next++) {
                int c = bytes[next];
                if (c >= 'a' && c <= 'z') {
                    letters++;
                    code = code * 32 + (c - 'a' + 1);
                } else if (c >= '0' && c <= '9') {
                    digits++;
                    number = number * 10 + (c - '0');
                } else {
                    break;
                }
            }
            boolean isWord = digits == 0 && letters >= 1 && letters <= 7;
            boolean isNumber = letters == 0 && digits >= 1 && digits <= 3;
            kind = isWord ? A_WORD : isNumber ? A_NUMBER : NO_TOKEN;
        }

        private static boolean isSign(int c) {
            return c == ';' || c == '<' || c == '=' || c == '>' || c == '(' || c == ')';
        }

        boolean goesOn() {
            return fault == 0 && kind != AT_END;
        }

        void fail(int why) {
            if (fault == 0) {
                fault = why;
                place = at;
            }
        }

        boolean isAtName() {
            return kind == A_WORD && word == null;
        }

        boolean isAtSign(int c) {
            return kind == A_SIGN && sign == c;
        }

        void takeSign(int c) {
            if (fault != 0) {
                return;
            }
            if (isAtSign(c)) {
                advance();
            } else {
                fail(CANNOT_COME);
            }
        }

        /** One of < = >, or 0 with a FAULT. */
        int takeComparison() {
            if (fault != 0) {
                return 0;
            }
            if (!isAtSign('<') && !isAtSign('=') && !isAtSign('>')) {
                fail(CANNOT_COME);
                return 0;
            }
            int taken = sign;
            advance();
            return taken;
        }

        /** A NUMBER from least to greatest, or NONE with a FAULT. */
        int takeNumber(int least, int greatest) {
            if (fault != 0) {
                return NONE;
            }
            if (kind != A_NUMBER) {
                fail(CANNOT_COME);
                return NONE;
            }
            if (number < least || number > greatest) {
                fail(NOT_AS_TOLD);
                return NONE;
            }
            int taken = number;
            advance();
            return taken;
        }

        /** Which ROW of the room is named, or NONE with a FAULT; not the one that may not come again. */
        int takeRow(State room, int notThis) {
            if (fault != 0) {
                return NONE;
            }
            if (!isAtName()) {
                fail(CANNOT_COME);
                return NONE;
            }
            int r = room.numberOf(code);
            if (r == NONE || r == notThis) {
                fail(WRONG_NAME);
                return NONE;
            }
            advance();
            return r;
        }

        int lettersOfWord() {
            return next - at;
        }

        int letterOfWord(int k) {
            int p = at + k;
            return p < 0 || p >= length ? 0 : bytes[p];
        }
    }

    /** The bits of a row in one array; of its leaves only the sizes are kept, for they follow one another. */
    private static final class Row {
        private final byte[] bits = new byte[MOST_BITS];
        final int[] leafSizes = new int[MOST_LEAVES];
        int length;
        int leafCount;

        void clear() {
            length = 0;
            leafCount = 0;
        }

        void copyFrom(Row other) {
            System.arraycopy(other.bits, 0, bits, 0, other.length);
            System.arraycopy(other.leafSizes, 0, leafSizes, 0, other.leafCount);
            length = other.length;
            leafCount = other.leafCount;
        }

        boolean hasGap(int i) {
            return i >= 0 && i <= length;
        }

        boolean hasRange(int i, int n) {
            return i >= 0 && n >= 0 && i <= length - n;
        }

        int bitAt(int i) {
            return i < 0 || i >= length ? NONE : bits[i];
        }

        int countIn(int i, int n, int b) {
            int many = 0;
            if (hasRange(i, n)) {
                for (int p = i; p < i + n; p++) {
                    if (bits[p] == b) {
                        many++;
                    }
                }
            }
            return many;
        }

        int placeOf(int k, int b) {
            int ahead = 0;
            for (int p = 0; p < length; p++) {
                if (bits[p] == b) {
                    if (ahead == k) {
                        return p;
                    }
                    ahead++;
                }
            }
            return NONE;
        }

        int nextPlace(int i, int b) {
            if (i < 0) {
                return NONE;
            }
            for (int p = i; p < length; p++) {
                if (bits[p] == b) {
                    return p;
                }
            }
            return NONE;
        }

        int runCount() {
            int many = length > 0 ? 1 : 0;
            for (int p = 1; p < length; p++) {
                if (bits[p] != bits[p - 1]) {
                    many++;
                }
            }
            return many;
        }

        int longestRun(int b) {
            int best = 0;
            int run = 0;
            for (int p = 0; p < length; p++) {
                run = bits[p] == b ? run + 1 : 0;
                best = Math.max(best, run);
            }
            return best;
        }

        int wordFrom(int i) {
            int bitsOfWord = 0;
            for (int p = i; p < i + 32; p++) {
                bitsOfWord = (bitsOfWord << 1) | (bitAt(p) == 1 ? 1 : 0);
            }
            return bitsOfWord;
        }

        int sumOfPlaces() {
            int sum = 0;
            for (int p = 0; p < length; p++) {
                sum += bits[p] == 1 ? p : 0;
            }
            return sum;
        }

        int unlikeBits(Row other) {
            int both = Math.min(length, other.length);
            int many = Math.max(length, other.length) - both;
            for (int p = 0; p < both; p++) {
                if (bits[p] != other.bits[p]) {
                    many++;
                }
            }
            return many;
        }

        int firstUnlike(Row other) {
            int both = Math.min(length, other.length);
            for (int p = 0; p < both; p++) {
                if (bits[p] != other.bits[p]) {
                    return p;
                }
            }
            return length == other.length ? NONE : both;
        }

        boolean beginsWith(Row other) {
            int p = firstUnlike(other);
            return p == NONE || p == other.length;
        }

        boolean hasAt(int i, int[] pattern, int n) {
            if (!hasRange(i, n) || n > pattern.length) {
                return false;
            }
            for (int k = 0; k < n; k++) {
                if (bits[i + k] != pattern[k]) {
                    return false;
                }
            }
            return true;
        }

        int leafStart(int k) {
            int start = 0;
            for (int j = 0; j < k && j < leafCount; j++) {
                start += leafSizes[j];
            }
            return start;
        }

        private int leafWith(int p) {
            int last = Math.max(leafCount - 1, 0);
            // Most bits are put at the end: no walk for these.
            if (p >= length - leafSizes[last]) {
                return last;
            }
            int behind = 0;
            for (int k = 0; k < last; k++) {
                behind += leafSizes[k];
                if (p < behind) {
                    return k;
                }
            }
            return last;
        }

        void insert(int i, int b, int low) {
            if (!hasGap(i) || length >= MOST_BITS) {
                return;
            }
            if (leafCount == 0) {
                leafSizes[0] = 0;
                leafCount = 1;
            }
            int k = leafWith(i == 0 ? 0 : i - 1);
            leafSizes[k]++;
            halveIfTooBig(k, low);
            System.arraycopy(bits, i, bits, i + 1, length - i);
            bits[i] = (byte) b;
            length++;
        }

        private void halveIfTooBig(int k, int low) {
            int n = leafSizes[k];
            if (n <= 2 * low || leafCount >= MOST_LEAVES) {
                return;
            }
            System.arraycopy(leafSizes, k + 1, leafSizes, k + 2, leafCount - k - 1);
            leafSizes[k] = n - n / 2;
            leafSizes[k + 1] = n / 2;
            leafCount++;
        }

        void remove(int i, int n, int low) {
            if (!hasRange(i, n)) {
                return;
            }
            System.arraycopy(bits, i + n, bits, i, length - i - n);
            // The leaves lose the bits one by one, for each may make leaves merge and split.
            for (int k = 0; k < n; k++) {
                int leaf = leafWith(i);
                leafSizes[leaf]--;
                length--;
                if (leafSizes[leaf] < low && leafCount > 1) {
                    mergeWithNext(Math.min(leaf, leafCount - 2), low);
                }
            }
            if (length == 0) {
                leafCount = 0;
            }
        }

        private void mergeWithNext(int k, int low) {
            leafSizes[k] += leafSizes[k + 1];
            System.arraycopy(leafSizes, k + 2, leafSizes, k + 1, leafCount - k - 2);
            leafCount--;
            halveIfTooBig(k, low);
        }

        void turnOver(int i, int n) {
            if (!hasRange(i, n)) {
                return;
            }
            for (int p = i; p < i + n; p++) {
                bits[p] = (byte) (1 - bits[p]);
            }
        }

        void append(Row other, int from, int low) {
            for (int p = from; p >= 0 && p < other.length; p++) {
                insert(length, other.bits[p], low);
            }
        }
    }

    /** What follows from how many leaves there are: the tree is halved evenly, so it need not be kept. */
    private static final class Tree {
        static int height(int leafCount) {
            int levels = 0;
            for (int n = leafCount; n > 1; n -= n / 2) {
                levels++;
            }
            return levels;
        }

        static int inner(int leafCount) {
            return leafCount > 1 ? leafCount - 1 : 0;
        }

        static int mixed(int leafCount) {
            return triples(leafCount, 0);
        }

        /** Two leaves below are none mixed, and four are two by two: only three are a pair and one. */
        private static int triples(int leafCount, int depth) {
            if (leafCount <= 3 || depth > 20) {
                return leafCount == 3 ? 1 : 0;
            }
            int half = leafCount / 2;
            return triples(leafCount - half, depth + 1) + triples(half, depth + 1);
        }

        static int cost(Row row) {
            int sum = 5 * inner(row.leafCount);
            for (int k = 0; k < row.leafCount; k++) {
                sum += (row.leafSizes[k] + 31) / 32 + 4;
            }
            return sum;
        }
    }

    /** Quotients as the machine's bits, reckoned with whole numbers: the language tells no bits of a float. */
    private static final class Fraction {
        /** The bits of above / below (0 and more by 1 and more), rounded to the nearest, a tie to the even one. */
        static long asBits(long above, long below, int digits, int bias) {
            if (above <= 0 || below <= 0) {
                return 0;
            }
            long rest = above;
            long unit = below;
            int exponent = 0;
            for (int k = 0; k < 40 && rest >= 2 * unit; k++) {
                unit *= 2;
                exponent++;
            }
            for (int k = 0; k < 40 && rest < unit; k++) {
                rest *= 2;
                exponent--;
            }
            long mantissa = 0;
            for (int k = 0; k < digits; k++) {
                mantissa *= 2;
                if (rest >= unit) {
                    mantissa++;
                    rest -= unit;
                }
                rest *= 2;
            }
            if (rest > unit || rest == unit && (mantissa & 1) == 1) {
                mantissa++;
            }
            // The mantissa's leading one adds itself to the exponent, and so does the carry of a rounding.
            return ((long) (exponent + bias - 1) << (digits - 1)) + mantissa;
        }
    }

    /** The LETTERS; their NODES are read off them. */
    private static final class Script {
        private final byte[] signs = new byte[MOST_LETTERS];
        int length;

        void copyFrom(Script other) {
            System.arraycopy(other.signs, 0, signs, 0, other.length);
            length = other.length;
        }

        int signAt(int i) {
            return i < 0 || i >= length ? NONE : signs[i];
        }

        boolean hasRange(int i, int n) {
            return i >= 0 && n >= 0 && i <= length - n;
        }

        int countIn(int i, int j, int c) {
            int many = 0;
            for (int p = Math.max(i, 0); p < j && p < length; p++) {
                if (signs[p] == c) {
                    many++;
                }
            }
            return many;
        }

        int placeOf(int c, int k) {
            int ahead = 0;
            for (int p = 0; p < length; p++) {
                if (signs[p] == c) {
                    if (ahead == k) {
                        return p;
                    }
                    ahead++;
                }
            }
            return NONE;
        }

        int leastOf(int i, int j, int k) {
            int ahead = 0;
            for (int c = 0; c < KINDS_OF_LETTERS; c++) {
                ahead += countIn(i, j, c);
                if (k < ahead) {
                    return c;
                }
            }
            return NONE;
        }

        int nodeBit(int n, int i) {
            int first = n == 0 ? 0 : n < 3 ? 1 : 3;
            int shift = n == 0 ? 2 : n < 3 ? 1 : 0;
            int ahead = 0;
            for (int p = 0; p < length; p++) {
                if (signs[p] >> (shift + 1) == n - first) {
                    if (ahead == i) {
                        return (signs[p] >> shift) & 1;
                    }
                    ahead++;
                }
            }
            return NONE;
        }

        void insert(int i, int c) {
            if (i < 0 || i > length || length >= MOST_LETTERS) {
                return;
            }
            System.arraycopy(signs, i, signs, i + 1, length - i);
            signs[i] = (byte) c;
            length++;
        }

        void remove(int i, int n) {
            if (!hasRange(i, n)) {
                return;
            }
            System.arraycopy(signs, i + n, signs, i, length - i - n);
            length -= n;
        }
    }

    /** A ROOM: what its text told, and what its ROWS and LETTERS are now. */
    private static final class State {
        private final Row[] rows = new Row[MOST_ROWS];
        private final long[] names = new long[MOST_ROWS];
        final Script script = new Script();
        int rowCount;
        int low = USUAL_LOW;
        private boolean lettersTold;

        State() {
            for (int r = 0; r < MOST_ROWS; r++) {
                rows[r] = new Row();
            }
        }

        void copyFrom(State other) {
            for (int r = 0; r < other.rowCount && r < MOST_ROWS; r++) {
                rows[r].copyFrom(other.rows[r]);
                names[r] = other.names[r];
            }
            script.copyFrom(other.script);
            rowCount = other.rowCount;
            low = other.low;
        }

        Row rowAt(int r) {
            return r < 0 || r >= rowCount || r >= MOST_ROWS ? null : rows[r];
        }

        int numberOf(long name) {
            for (int r = 0; r < rowCount && r < MOST_ROWS; r++) {
                if (names[r] == name) {
                    return r;
                }
            }
            return NONE;
        }

        int allBits() {
            int sum = 0;
            for (int r = 0; r < rowCount && r < MOST_ROWS; r++) {
                sum += rows[r].length;
            }
            return sum;
        }

        /** Becomes the ROOM of the text, if that has no FAULT: how many LINES. */
        int readLines(Reader in) {
            rowCount = 0;
            low = USUAL_LOW;
            script.length = 0;
            lettersTold = false;
            int many = 0;
            for (int k = 0; k < MOST_TAPE && in.goesOn(); k++) {
                if (in.word == Word.LEAF) {
                    readLeaf(in, many == 0);
                } else if (in.word == Word.ROW) {
                    readRow(in);
                } else if (in.word == Word.LETTERS) {
                    readLetters(in);
                } else {
                    in.fail(CANNOT_COME);
                }
                in.takeSign(';');
                many++;
            }
            return many;
        }

        private void readLeaf(Reader in, boolean first) {
            if (!first) {
                in.fail(WRONG_NAME);
                return;
            }
            in.advance();
            int n = in.takeNumber(LEAST_LOW, MOST_LOW);
            if (n != NONE) {
                low = n;
            }
        }

        private void readRow(Reader in) {
            if (rowCount >= MOST_ROWS) {
                in.fail(TOO_MANY);
                return;
            }
            in.advance();
            if (!in.isAtName()) {
                in.fail(CANNOT_COME);
                return;
            }
            if (numberOf(in.code) != NONE) {
                in.fail(WRONG_NAME);
                return;
            }
            names[rowCount] = in.code;
            Row row = rows[rowCount];
            row.clear();
            rowCount++;
            in.advance();
            for (int k = 0; k < MOST_TAPE && in.fault == 0 && in.kind == A_WORD; k++) {
                readBits(in, row);
            }
        }

        private void readBits(Reader in, Row row) {
            int n = in.lettersOfWord();
            for (int k = 0; k < n; k++) {
                int c = in.letterOfWord(k);
                if (c != 'i' && c != 'o') {
                    in.fail(NOT_AS_TOLD);
                    return;
                }
            }
            if (row.length + n > MOST_BITS) {
                in.fail(TOO_MANY);
                return;
            }
            for (int k = 0; k < n; k++) {
                row.insert(row.length, in.letterOfWord(k) == 'i' ? 1 : 0, low);
            }
            in.advance();
        }

        private void readLetters(Reader in) {
            if (lettersTold) {
                in.fail(WRONG_NAME);
                return;
            }
            lettersTold = true;
            in.advance();
            for (int k = 0; k < MOST_TAPE && in.fault == 0 && in.kind == A_WORD; k++) {
                readLettersOfWord(in);
            }
        }

        private void readLettersOfWord(Reader in) {
            int n = in.lettersOfWord();
            for (int k = 0; k < n; k++) {
                if (!isLetter(in.letterOfWord(k) - 'a')) {
                    in.fail(NOT_AS_TOLD);
                    return;
                }
            }
            if (script.length + n > MOST_LETTERS) {
                in.fail(TOO_MANY);
                return;
            }
            for (int k = 0; k < n; k++) {
                script.insert(script.length, in.letterOfWord(k) - 'a');
            }
            in.advance();
        }

        /** Why a DEED can't be done (1, 2), or 0; a, b, c: what it is told, as a LINE of a BOOK has it. */
        int whyNot(Word deed, int a, int b, int c) {
            if (deed == Word.TYPE) {
                return a < 0 || a > script.length ? 1 : script.length >= MOST_LETTERS ? 2 : 0;
            }
            if (deed == Word.ERASE) {
                return script.hasRange(a, b) ? 0 : 1;
            }
            Row row = rowAt(a);
            if (row == null) {
                return 1;
            }
            if (deed == Word.JOIN) {
                return whyNotMoved(rowAt(b), 0, row);
            }
            if (deed == Word.SPLIT) {
                return whyNotMoved(row, b, rowAt(c));
            }
            if (deed == Word.PUT) {
                return !row.hasGap(b) ? 1 : row.length >= MOST_BITS ? 2 : 0;
            }
            if (deed == Word.SET) {
                return row.bitAt(b) == NONE ? 1 : row.bitAt(b) == c ? 2 : 0;
            }
            return row.hasRange(b, c) ? 0 : 1;
        }

        private static int whyNotMoved(Row from, int i, Row to) {
            if (from == null || to == null || from.bitAt(i) == NONE) {
                return 1;
            }
            return to.length + from.length - i > MOST_BITS ? 2 : 0;
        }

        /** Does what whyNot() has nothing against. */
        void act(Word deed, int a, int b, int c) {
            if (deed == Word.TYPE) {
                script.insert(a, b);
                return;
            }
            if (deed == Word.ERASE) {
                script.remove(a, b);
                return;
            }
            Row row = rowAt(a);
            Row other = deed == Word.JOIN ? rowAt(b) : deed == Word.SPLIT ? rowAt(c) : row;
            if (row == null || other == null) {
                return;
            }
            if (deed == Word.PUT) {
                row.insert(b, c, low);
            } else if (deed == Word.SET) {
                row.turnOver(b, 1);
            } else if (deed == Word.CUT) {
                row.remove(b, c, low);
            } else if (deed == Word.TURN) {
                row.turnOver(b, c);
            } else if (deed == Word.JOIN) {
                row.append(other, 0, low);
                other.clear();
            } else if (deed == Word.SPLIT) {
                other.append(row, b, low);
                row.remove(b, row.length - b, low);
            }
        }
    }

    /** What was so ahead of the latest deeds, the oldest dropped first. */
    private static final class History {
        // Made when first needed and used again: most objects see few deeds.
        private final State[] slots = new State[MOST_KEPT];
        private int oldest;
        int kept;

        void forget() {
            kept = 0;
        }

        void keep(State state) {
            int k = (oldest + kept) % MOST_KEPT;
            if (kept == MOST_KEPT) {
                oldest = (oldest + 1) % MOST_KEPT;
            } else {
                kept++;
            }
            if (slots[k] == null) {
                slots[k] = new State();
            }
            slots[k].copyFrom(state);
        }

        boolean bringBack(State state) {
            if (kept == 0) {
                return false;
            }
            int k = (oldest + kept - 1) % MOST_KEPT;
            if (slots[k] == null) {
                return false;
            }
            kept--;
            state.copyFrom(slots[k]);
            return true;
        }
    }

    /** The DEEDS that a seed draws. */
    private static final class Draws {
        private int x;

        Draws(int seed) {
            x = seed;
        }

        private int draw(int n) {
            x = x * 1103515245 + 12345;
            return n < 1 ? 0 : (x >>> 8) % n;
        }

        boolean deedOn(State state) {
            if (state.rowCount == 0) {
                return false;
            }
            int what = draw(8);
            int r = draw(state.rowCount);
            Row row = state.rowAt(r);
            int i = draw(row == null ? 1 : row.length + 1);
            switch (what) {
                case 3:
                    return done(state, Word.CUT, r, i, draw(8) + 1);
                case 4:
                case 5:
                    return done(state, Word.TURN, r, i, draw(40) + 1);
                case 6: {
                    int s = draw(state.rowCount);
                    return s != r && done(state, Word.JOIN, r, s, 0);
                }
                case 7: {
                    int s = draw(state.rowCount);
                    return s != r && done(state, Word.SPLIT, r, i, s);
                }
                default:
                    return done(state, Word.PUT, r, i, draw(2));
            }
        }

        private static boolean done(State state, Word deed, int a, int b, int c) {
            if (state.whyNot(deed, a, b, c) != 0) {
                return false;
            }
            state.act(deed, a, b, c);
            return true;
        }
    }

    /** The LINES of a BOOK, read whole before the first is lived. */
    private static final class Book {
        private final Word[] deeds = new Word[MOST_LINES];
        private final int[] firsts = new int[MOST_LINES];
        private final int[] seconds = new int[MOST_LINES];
        private final int[] thirds = new int[MOST_LINES];
        private int many;
        // Why the latest life ended early; 0 if it did not.
        int wrong;

        void readLines(Reader in, State room) {
            many = 0;
            for (int k = 0; k <= MOST_LINES && in.goesOn(); k++) {
                if (in.word == null || in.word.sort != DEED) {
                    in.fail(CANNOT_COME);
                } else if (many >= MOST_LINES) {
                    in.fail(TOO_MANY);
                } else {
                    readLine(in, room);
                    in.takeSign(';');
                    many++;
                }
            }
        }

        private void readLine(Reader in, State room) {
            Word deed = in.word;
            int a = 0;
            int b = 0;
            int c = 0;
            in.advance();
            if (deed == Word.TYPE || deed == Word.ERASE) {
                a = in.takeNumber(0, 999);
                b = deed == Word.TYPE ? in.takeNumber(0, KINDS_OF_LETTERS - 1) : in.takeNumber(1, MOST_BITS);
            } else if (deed == Word.JOIN) {
                a = in.takeRow(room, NONE);
                b = in.takeRow(room, a);
            } else {
                a = in.takeRow(room, NONE);
                b = in.takeNumber(0, 999);
                c = readThird(in, room, deed, a);
            }
            deeds[many] = deed;
            firsts[many] = a;
            seconds[many] = b;
            thirds[many] = c;
        }

        private static int readThird(Reader in, State room, Word deed, int first) {
            if (deed == Word.SPLIT) {
                return in.takeRow(room, first);
            }
            return deed == Word.PUT || deed == Word.SET ? in.takeNumber(0, 1) : in.takeNumber(1, MOST_BITS);
        }

        /** Lives the LINES as far as they are not WRONG: how many. */
        int liveOn(State state) {
            wrong = 0;
            for (int k = 0; k < many && k < MOST_LINES; k++) {
                Word deed = deeds[k];
                if (deed == null) {
                    return k;
                }
                int why = state.whyNot(deed, firsts[k], seconds[k], thirds[k]);
                if (why != 0) {
                    wrong = deed.base + why;
                    return k;
                }
                state.act(deed, firsts[k], seconds[k], thirds[k]);
            }
            return many;
        }
    }

    /** A SENTENCE as steps over a stack, each behind what it is about: brackets are gone by then. */
    private static final class Sentence {
        private final Word[] steps = new Word[MOST_STEPS];
        private final int[] signs = new int[MOST_STEPS];
        private final int[] numbers = new int[MOST_STEPS];
        private final boolean[] stack = new boolean[MOST_STEPS];
        private int stepCount;
        // 0 if there is no SENTENCE: each has one at least.
        int ones;

        void clear() {
            stepCount = 0;
            ones = 0;
        }

        void copyFrom(Sentence other) {
            for (int k = 0; k < other.stepCount && k < MOST_STEPS; k++) {
                steps[k] = other.steps[k];
                signs[k] = other.signs[k];
                numbers[k] = other.numbers[k];
            }
            stepCount = other.stepCount;
            ones = other.ones;
        }

        /** Becomes the SENTENCE of the text, if that has no FAULT. */
        void readAll(Reader in, State room) {
            clear();
            readCond(in, room, 1);
            if (in.goesOn()) {
                in.fail(CANNOT_COME);
            }
        }

        private void readCond(Reader in, State room, int depth) {
            readOne(in, room, depth);
            // An 'or' waits until the 'and's behind it are through.
            boolean waits = false;
            for (int k = 0; k < MOST_ONES && in.fault == 0 && (in.word == Word.OR || in.word == Word.AND); k++) {
                Word between = in.word;
                in.advance();
                if (between == Word.OR && waits) {
                    addStep(Word.OR, 0, 0);
                }
                waits = waits || between == Word.OR;
                readOne(in, room, depth);
                if (between == Word.AND) {
                    addStep(Word.AND, 0, 0);
                }
            }
            if (waits) {
                addStep(Word.OR, 0, 0);
            }
        }

        private void readOne(Reader in, State room, int depth) {
            boolean bracket = in.isAtSign('(');
            if (in.fault != 0) {
                return;
            }
            if (!bracket && (in.word == null || in.word.sort != ONE)) {
                in.fail(CANNOT_COME);
                return;
            }
            if (ones >= MOST_ONES || depth > MOST_WITHIN) {
                in.fail(TOO_MANY);
                return;
            }
            ones++;
            Word word = in.word;
            in.advance();
            if (bracket) {
                readCond(in, room, depth + 1);
                in.takeSign(')');
            } else if (word == Word.NOT) {
                readOne(in, room, depth + 1);
                addStep(Word.NOT, 0, 0);
            } else {
                readPlain(in, room, word);
            }
        }

        private void readPlain(Reader in, State room, Word word) {
            if (word == Word.EMPTY || word == Word.EVEN) {
                addStep(word, 0, 0);
            } else if (word == Word.LIKE || word == Word.BEGINS) {
                addStep(word, 0, in.takeRow(room, NONE));
            } else {
                int sign = in.takeComparison();
                addStep(word, sign, in.takeNumber(0, 999));
            }
        }

        private void addStep(Word word, int sign, int number) {
            if (stepCount < MOST_STEPS) {
                steps[stepCount] = word;
                signs[stepCount] = sign;
                numbers[stepCount] = number;
                stepCount++;
            }
        }

        boolean isTrueOf(State room, int r) {
            int top = 0;
            for (int k = 0; k < stepCount && k < MOST_STEPS; k++) {
                Word word = steps[k];
                if (word == Word.NOT && top >= 1) {
                    stack[top - 1] = !stack[top - 1];
                } else if (word == Word.AND && top >= 2) {
                    top--;
                    stack[top - 1] = stack[top - 1] && stack[top];
                } else if (word == Word.OR && top >= 2) {
                    top--;
                    stack[top - 1] = stack[top - 1] || stack[top];
                } else {
                    stack[top] = isPlainTrue(k, room, r);
                    top++;
                }
            }
            return top == 1 && stack[0];
        }

        private boolean isPlainTrue(int k, State room, int r) {
            Row row = room.rowAt(r);
            if (row == null) {
                return false;
            }
            Word word = steps[k];
            if (word == Word.EMPTY) {
                return row.length == 0;
            }
            if (word == Word.EVEN) {
                return row.countIn(0, row.length, 1) % 2 == 0;
            }
            if (word == Word.LIKE || word == Word.BEGINS) {
                Row other = room.rowAt(numbers[k]);
                return other != null && (word == Word.LIKE ? row.firstUnlike(other) == NONE : row.beginsWith(other));
            }
            int value = measure(word, row, r);
            return signs[k] == '<' ? value < numbers[k] : signs[k] == '=' ? value == numbers[k] : value > numbers[k];
        }

        private static int measure(Word word, Row row, int r) {
            if (word == Word.SIZE) {
                return row.length;
            }
            if (word == Word.ONES) {
                return row.countIn(0, row.length, 1);
            }
            if (word == Word.RUNS) {
                return row.runCount();
            }
            return word == Word.LEAVES ? row.leafCount : r;
        }
    }
}
