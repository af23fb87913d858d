import java.util.NoSuchElementException;

/**
 * Poems whose stanzas end on the same words, sent to other lines each time by a turning.
 * What the methods promise stands in the project's document, promise by promise.
 */
public final class EndsRound {
    public static final int NONE = -1;

    private static final int MOST_ENDS = 12;
    private static final int MOST_FILLED = 7;
    private static final int MOST_STEPS = 8;
    private static final int MOST_RHYMES = 8;
    private static final int MOST_WORDS = 12;
    private static final int MOST_BARS = 4;
    private static final int MOST_WITHIN = 5;
    private static final int MOST_SIGNS = 1000;
    private static final int MOST_LINES = 60;
    private static final int MOST_MARKS = 4;
    private static final int MOST_SPIRAL = 200;
    private static final long LAST_STANZA = 1000000000000000L;
    private static final long MODULUS = 1000000007L;

    private static final int MISPLACED = 1;
    private static final int TWICE = 3;
    private static final int BEYOND = 4;
    private static final int TOO_MANY = 5;

    // A token's key: one of these four, a sign's own number, or ENDS and more: a word's rank in KEYS.
    private static final int FINISH = 0;
    private static final int UNKNOWN = 1;
    private static final int NUMBER = 2;
    private static final int NAME = 3;

    private static final int ENDS = 128;
    private static final int TURN = 129;
    private static final int SPIRAL = 130;
    private static final int BACK = 131;
    private static final int HALVES = 132;
    private static final int THIRDS = 133;
    private static final int SHIFT = 134;
    private static final int SWAP = 135;
    private static final int RHYME = 136;
    private static final int WHOLE = 137;
    private static final int EVERY = 138;
    private static final int FEET = 139;
    private static final int WORD = 140;
    private static final int BEATS = 141;
    private static final int KIND = 142;
    private static final int BAR = 143;
    private static final int NOT = 144;
    private static final int AND = 145;
    private static final int OR = 146;
    private static final int SORT = 147;
    private static final int NEXT = 148;
    private static final int LONG = 149;
    private static final int SHORT = 150;

    private static final int LONGEST_WORD = 8;
    private static final int LONGEST_NUMBER = 4;
    private static final int KEY_COUNT = 24;
    private static final String KEYS =
        "ends turn spiral back halves thirds shift swap rhyme whole every feet word beats kind bar not and or sort next long short alike ";

    // Numbers in a bar's code stand below this, facts and operations are keys above it.
    private static final int OPERATION = 10000;

    private final Tape tape;
    private final Parser parser;
    private final Form current;
    private final Draft draft;
    private final Stanzas stanzas;
    private final Filler filler;
    private final Mender mender;
    private final Namer namer;
    private final Mark[] marks;
    private final Cycles spiralCycles;
    private final int[] spiralRow;

    public EndsRound() {
        tape = new Tape();
        parser = new Parser(tape);
        current = new Form();
        draft = new Draft();
        stanzas = new Stanzas();
        filler = new Filler(current, stanzas);
        mender = new Mender(current, stanzas, draft);
        namer = new Namer(current);
        marks = new Mark[MOST_MARKS];
        for (int i = 0; i < MOST_MARKS; i++) {
            marks[i] = new Mark();
        }
        spiralCycles = new Cycles(MOST_SPIRAL);
        spiralRow = new int[MOST_SPIRAL];
        current.begin(1);
        stanzas.follow(current);
    }

    public int feed(long a, long b, long c) {
        tape.addBytes(a);
        tape.addBytes(b);
        tape.addBytes(c);
        return tape.length;
    }

    public int form() {
        int fault = parser.read();
        if (fault == 0) {
            current.copy(parser.told);
            draft.length = 0;
            formChanged();
        }
        return fault;
    }

    public int turning(int place, int what) {
        if (!isEnd(place)) {
            return NONE;
        }
        switch (what) {
            case 0:
                return cell(stanzas.to, place);
            case 1:
                return cell(current.from, place);
            case 2:
                return cell(stanzas.cycles.lengths, place);
            default:
                return NONE;
        }
    }

    public int end(long stanza, int place) {
        return isStanza(stanza) && isEnd(place) ? stanzas.endAt(stanza, place) : NONE;
    }

    public int where(long stanza, int end) {
        return isStanza(stanza) && isEnd(end) ? stanzas.placeOf(stanza, end) : NONE;
    }

    public int meets(int end, int place) {
        return isEnd(end) && isEnd(place) ? stanzas.firstMeeting(end, place) : NONE;
    }

    public int round(int what) {
        switch (what) {
            case 0:
                return (int) stanzas.cycles.period;
            case 1:
                return stanzas.cycles.number;
            case 2:
                return stanzas.cycles.longest;
            case 3:
                return stanzas.cycles.staying;
            case 4:
                // A cycle of k places is made by k - 1 swaps.
                return (current.ends - stanzas.cycles.number) & 1;
            default:
                return NONE;
        }
    }

    public long roots() {
        long all = 1;
        for (int length = 1; length <= current.ends; length++) {
            all *= rootsOfAlike(length, stanzas.cycles.ofLength(length));
        }
        return all;
    }

    public int spiral(int n, int what) {
        if (n < 1 || n > MOST_SPIRAL) {
            return NONE;
        }
        for (int p = 0; p < n; p++) {
            put(spiralRow, p, spiralSource(n, p));
        }
        spiralCycles.follow(spiralRow, n);
        switch (what) {
            case 0:
                return spiralCycles.number;
            case 1:
                return spiralCycles.longest;
            case 2:
                return (int) (spiralCycles.period % MODULUS);
            default:
                return NONE;
        }
    }

    public int rhymes(int end) {
        return isEnd(end) ? cell(stanzas.classes, end) : NONE;
    }

    public int beside(int a, int b) {
        if (!isEnd(a) || !isEnd(b) || a == b) {
            return NONE;
        }
        return stanzas.timesAhead(a, b) + stanzas.timesAhead(b, a);
    }

    public int word(int word, int what) {
        if (!isWord(word)) {
            return NONE;
        }
        switch (what) {
            case 0:
                return cell(current.wordRhyme, word);
            case 1:
                return cell(current.wordBeats, word);
            case 2:
                return cell(current.wordKind, word);
            default:
                return NONE;
        }
    }

    public int barred(int ahead, int behind) {
        if (!isWord(ahead) || !isWord(behind)) {
            return NONE;
        }
        return current.forbids(ahead, behind) ? 1 : 0;
    }

    public long fills() {
        return current.ends > MOST_FILLED ? NONE : filler.howMany();
    }

    public int fill(int end) {
        if (current.ends > MOST_FILLED || !isEnd(end) || !filler.canAll()) {
            return NONE;
        }
        return cell(filler.first, end);
    }

    public int stuck(int what) {
        if (what < 0 || what > 1 || current.ends > MOST_FILLED || filler.canAll()) {
            return NONE;
        }
        int bits = filler.fewestStuck();
        return what == 0 ? Integer.bitCount(bits) : bits;
    }

    public int line(int word, int text, int beats) {
        if (!isWord(word) || text < 0 || text > 999 || beats < 0 || beats > 99
                || draft.length >= MOST_LINES) {
            return NONE;
        }
        draft.add(word, text, beats);
        mender.forget();
        return draft.length;
    }

    public boolean clear() {
        draft.length = 0;
        mender.forget();
        return true;
    }

    public int judged(int what) throws NoSuchElementException {
        if (what < 0 || what > 1) {
            throw new NoSuchElementException("judged tells of 0, the line, and 1, why");
        }
        for (int i = 0; i < draft.length; i++) {
            int why = whyWrong(i);
            if (why != 0) {
                return what == 0 ? i : why;
            }
        }
        return what == 0 ? NONE : 0;
    }

    public int mend() {
        return mender.howMany();
    }

    public int mended(int end) {
        return isEnd(end) && mender.howMany() != NONE ? cell(mender.given, end) : NONE;
    }

    public int same(int mark) {
        Mark kept = markAt(mark);
        if (kept == null || !kept.laid) {
            return NONE;
        }
        return namer.finds(kept.form) ? 1 : 0;
    }

    public int renamed(int mark, int place) {
        return isEnd(place) && same(mark) == 1 ? cell(namer.names, place) : NONE;
    }

    public boolean mark(int mark, boolean back) {
        Mark kept = markAt(mark);
        if (kept == null || back && !kept.laid) {
            return false;
        }
        if (back) {
            current.copy(kept.form);
            draft.copy(kept.draft);
            formChanged();
        } else {
            kept.lay(current, draft);
        }
        return true;
    }

    public int count(int what) {
        switch (what) {
            case 0:
                return current.ends;
            case 1:
                return current.steps;
            case 2:
                return current.rhymeLines;
            case 3:
                return current.wholeLines;
            case 4:
                return current.feet;
            case 5:
                return current.words;
            case 6:
                return current.bars;
            case 7:
                return draft.length;
            case 8:
                return tape.length;
            default:
                return NONE;
        }
    }

    private void formChanged() {
        stanzas.follow(current);
        filler.forget();
        mender.forget();
    }

    private boolean isEnd(int end) {
        return end >= 0 && end < current.ends;
    }

    private boolean isWord(int word) {
        return word >= 0 && word < current.words;
    }

    private Mark markAt(int mark) {
        return mark >= 0 && mark < marks.length ? marks[mark] : null;
    }

    private static boolean isStanza(long stanza) {
        return stanza >= 0 && stanza <= LAST_STANZA;
    }

    /** Why a line of the draft is wrong, 0 if it is not. */
    private int whyWrong(int line) {
        int ends = current.ends;
        if (ends < 1) {
            return 0;
        }
        int stanza = line / ends;
        int place = line % ends;
        int word = cell(draft.words, line);
        if (stanza == 0 ? isRepeated(place, word)
                : word != cell(draft.words, stanzas.endAt(stanza, place))) {
            return 1;
        }
        if (stanza == 0 && jars(place, word)) {
            return 2;
        }
        int every = cell(current.every, place);
        if (every > 0 && stanza % every == 0
                && cell(draft.texts, line) != cell(draft.texts, place)) {
            return 3;
        }
        if (current.feet > 0 && cell(draft.beats, line) != current.feet) {
            return 4;
        }
        return place > 0 && current.forbids(cell(draft.words, line - 1), word) ? 5 : 0;
    }

    private boolean isRepeated(int end, int word) {
        for (int before = 0; before < end; before++) {
            if (cell(draft.words, before) == word) {
                return true;
            }
        }
        return false;
    }

    private boolean jars(int end, int word) {
        int rhyme = cell(current.wordRhyme, word);
        for (int before = 0; before < end; before++) {
            if (stanzas.areOneClass(before, end)
                    && cell(current.wordRhyme, cell(draft.words, before)) != rhyme) {
                return true;
            }
        }
        return false;
    }

    /**
     * Roots of so many cycles of one length: a root turns a cycle into itself, in one way and
     * only if its length is odd, or winds it with another one, in as many ways as it is long.
     */
    private static long rootsOfAlike(int length, int howMany) {
        long alone = length & 1;
        long before = 0;
        long ways = 1;
        for (int i = 1; i <= howMany; i++) {
            long more = ways * alone + before * (i - 1) * length;
            before = ways;
            ways = more;
        }
        return ways;
    }

    private static int spiralSource(int n, int place) {
        return (place & 1) == 0 ? n - 1 - place / 2 : place / 2;
    }

    // Every row is read and written through these two, so that no index can go beyond one.
    private static int cell(int[] row, int index) {
        return index >= 0 && index < row.length ? row[index] : NONE;
    }

    private static void put(int[] row, int index, int value) {
        if (index >= 0 && index < row.length) {
            row[index] = value;
        }
    }

    private static void copyRow(int[] source, int[] target) {
        for (int i = 0; i < source.length && i < target.length; i++) {
            target[i] = source[i];
        }
    }

    private static void blank(int[] row, int value) {
        for (int i = 0; i < row.length; i++) {
            row[i] = value;
        }
    }

    /** The signs that are fed, and the tokens they are cut into to be read. */
    private static final class Tape {
        private final char[] signs = new char[MOST_SIGNS];
        private final int[] keys = new int[MOST_SIGNS + 1];
        private final int[] starts = new int[MOST_SIGNS + 1];
        // The number, or the letters of the word, of a token.
        private final long[] values = new long[MOST_SIGNS + 1];
        private final long[] words = new long[KEY_COUNT];
        private int length;
        private int tokens;

        Tape() {
            long packed = 0;
            int key = 0;
            for (int i = 0; i < KEYS.length() && key < words.length; i++) {
                if (isLetter(KEYS.charAt(i))) {
                    packed = withLetter(packed, KEYS.charAt(i));
                } else {
                    words[key] = packed;
                    packed = 0;
                    key++;
                }
            }
        }

        void addBytes(long bytes) {
            for (int shift = 56; shift >= 0; shift -= 8) {
                addSign((int) (bytes >>> shift) & 255);
            }
        }

        private void addSign(int sign) {
            boolean fits = sign == 10 || sign >= 32 && sign <= 126;
            if (fits && length >= 0 && length < signs.length) {
                signs[length] = (char) sign;
                length++;
            }
        }

        private int signAt(int index) {
            return index >= 0 && index < length && index < signs.length ? signs[index] : NONE;
        }

        /** Cuts all signs into tokens, and empties the tape. */
        void cut() {
            tokens = 0;
            int behind = 0;
            for (int i = 0; i < MOST_SIGNS && behind < length; i++) {
                behind = cutToken(behind);
            }
            addToken(length, FINISH, 0);
            length = 0;
        }

        /** Cuts what starts at a sign, and tells the place behind it. */
        private int cutToken(int start) {
            int sign = signAt(start);
            if (isLetter(sign)) {
                return cutWord(start);
            }
            if (isDigit(sign)) {
                return cutNumber(start);
            }
            if (!isBlank(sign)) {
                addToken(start, isSign(sign) ? sign : UNKNOWN, 0);
            }
            return start + 1;
        }

        private int cutWord(int start) {
            long packed = 0;
            int end = start;
            for (; end < length && isLetter(signAt(end)); end++) {
                packed = withLetter(packed, signAt(end));
            }
            addToken(start, end - start > LONGEST_WORD ? UNKNOWN : keyOf(packed), packed);
            return end;
        }

        private int cutNumber(int start) {
            long number = 0;
            int end = start;
            for (; end < length && isDigit(signAt(end)); end++) {
                number = number * 10 + signAt(end) - '0';
            }
            addToken(start, end - start > LONGEST_NUMBER ? UNKNOWN : NUMBER, number);
            return end;
        }

        private void addToken(int start, int key, long value) {
            if (tokens >= 0 && tokens < values.length) {
                values[tokens] = value;
                put(keys, tokens, key);
                put(starts, tokens, start);
                tokens++;
            }
        }

        private int keyOf(long packed) {
            for (int i = 0; i < words.length; i++) {
                if (words[i] == packed) {
                    return ENDS + i;
                }
            }
            return NAME;
        }

        // Five bits hold a letter as 1 to 26, so that no two words of up to 12 letters are alike.
        private static long withLetter(long packed, int letter) {
            return packed << 5 | letter - 'a' + 1;
        }

        private static boolean isBlank(int sign) {
            return sign == 10 || sign == 32;
        }

        private static boolean isLetter(int sign) {
            return sign >= 'a' && sign <= 'z';
        }

        private static boolean isDigit(int sign) {
            return sign >= '0' && sign <= '9';
        }

        private static boolean isSign(int sign) {
            return sign >= '(' && sign <= '-' && sign != ',' || sign >= ';' && sign <= '=';
        }
    }

    /** Reads the tape as a form, up to the first token that is wrong. */
    private static final class Parser {
        private final Tape tape;
        private final Bars bars = new Bars();
        private final Form told = new Form();
        private final long[] names = new long[MOST_WORDS];
        // The token in hand: which one it is, its key and its value.
        private int token;
        private int key;
        private long value;
        private int taken;
        private int fault;

        Parser(Tape tape) {
            this.tape = tape;
        }

        /** 0, and the form is told; or the fault. */
        int read() {
            tape.cut();
            fault = 0;
            bars.length = 0;
            holdToken(0);
            boolean good = takeKey(ENDS) && takeNumber(1, MOST_ENDS, NONE);
            told.begin(good ? taken : 1);
            good = good && takeKey(';');
            for (int i = 0; i < MOST_SIGNS && good && key != FINISH; i++) {
                good = readLine() && takeKey(';');
            }
            if (good) {
                bars.weigh(told);
            }
            return fault;
        }

        private boolean readLine() {
            switch (key) {
                case TURN:
                    return readTurn();
                case RHYME:
                    return readRhyme();
                case WHOLE:
                    return readWhole();
                case FEET:
                    return readFeet();
                case WORD:
                    return readWord();
                case BAR:
                    return readBar();
                default:
                    return isWrong(MISPLACED);
            }
        }

        private boolean readTurn() {
            holdToken(token + 1);
            boolean good = readStep();
            for (int i = 0; i < MOST_STEPS && good && key != ';'; i++) {
                good = readStep();
            }
            return good;
        }

        private boolean readStep() {
            int step = key;
            if (step < SPIRAL || step > SWAP) {
                return isWrong(MISPLACED);
            }
            if (told.steps >= MOST_STEPS) {
                return isWrong(TOO_MANY);
            }
            holdToken(token + 1);
            int first = NONE;
            if (step == SWAP) {
                if (!takeNumber(0, told.ends - 1, NONE)) {
                    return false;
                }
                first = taken;
            }
            int most = step == SWAP ? told.ends - 1 : MOST_ENDS - 1;
            if (step >= SHIFT && !takeNumber(0, most, first)) {
                return false;
            }
            told.addStep(step, first, taken);
            return true;
        }

        private boolean readRhyme() {
            if (told.rhymeLines >= MOST_RHYMES) {
                return isWrong(TOO_MANY);
            }
            holdToken(token + 1);
            if (!takeNumber(0, told.ends - 1, NONE)) {
                return false;
            }
            int first = taken;
            if (!takeNumber(0, told.ends - 1, first)) {
                return false;
            }
            told.addRhyme(first, taken);
            return true;
        }

        private boolean readWhole() {
            holdToken(token + 1);
            int again = key == NUMBER && cell(told.every, (int) value) > 0 ? (int) value : NONE;
            if (!takeNumber(0, told.ends - 1, again)) {
                return false;
            }
            int place = taken;
            if (!takeKey(EVERY) || !takeNumber(1, 99, NONE)) {
                return false;
            }
            told.addWhole(place, taken);
            return true;
        }

        private boolean readFeet() {
            if (told.feet > 0) {
                return isWrong(TWICE);
            }
            holdToken(token + 1);
            if (!takeNumber(1, 99, NONE)) {
                return false;
            }
            told.feet = taken;
            return true;
        }

        private boolean readWord() {
            if (told.words >= MOST_WORDS) {
                return isWrong(TOO_MANY);
            }
            holdToken(token + 1);
            if (!takeName() || !takeKey(RHYME) || !takeNumber(0, 99, NONE)) {
                return false;
            }
            int rhyme = taken;
            if (!takeKey(BEATS) || !takeNumber(1, 9, NONE)) {
                return false;
            }
            int beats = taken;
            if (!takeKey(KIND) || !takeNumber(0, 99, NONE)) {
                return false;
            }
            told.addWord(rhyme, beats, taken);
            return true;
        }

        private boolean takeName() {
            // Facts are no keys where a name is due: their words may name a word.
            if (key != NAME && key < SORT) {
                return isWrong(MISPLACED);
            }
            for (int i = 0; i < told.words && i < names.length; i++) {
                if (names[i] == value) {
                    return isWrong(TWICE);
                }
            }
            if (told.words >= 0 && told.words < names.length) {
                names[told.words] = value;
            }
            holdToken(token + 1);
            return true;
        }

        private boolean readBar() {
            if (told.bars >= MOST_BARS) {
                return isWrong(TOO_MANY);
            }
            holdToken(token + 1);
            if (!readTests(0)) {
                return false;
            }
            bars.add(OPERATION + ';');
            told.bars++;
            return true;
        }

        private boolean readTests(int within) {
            boolean good = readTest(within);
            for (int i = 0; i < MOST_SIGNS && good && (key == AND || key == OR); i++) {
                int join = key;
                holdToken(token + 1);
                good = readTest(within);
                bars.add(OPERATION + join);
            }
            return good;
        }

        private boolean readTest(int within) {
            boolean good = readSum(within);
            if (good && (key == '<' || key == '=')) {
                int join = key;
                holdToken(token + 1);
                good = readSum(within);
                bars.add(OPERATION + join);
            }
            return good;
        }

        private boolean readSum(int within) {
            boolean good = readProduct(within);
            for (int i = 0; i < MOST_SIGNS && good && (key == '+' || key == '-'); i++) {
                int join = key;
                holdToken(token + 1);
                good = readProduct(within);
                bars.add(OPERATION + join);
            }
            return good;
        }

        private boolean readProduct(int within) {
            boolean good = readPart(within);
            for (int i = 0; i < MOST_SIGNS && good && key == '*'; i++) {
                holdToken(token + 1);
                good = readPart(within);
                bars.add(OPERATION + '*');
            }
            return good;
        }

        private boolean readPart(int within) {
            int part = key;
            if (part != NUMBER && part != NOT && part != '(' && part < SORT) {
                return isWrong(MISPLACED);
            }
            if (within >= MOST_WITHIN) {
                return isWrong(TOO_MANY);
            }
            int number = (int) value;
            holdToken(token + 1);
            if (part == '(') {
                return readTests(within + 1) && takeKey(')');
            }
            if (part == NOT && !readPart(within + 1)) {
                return false;
            }
            bars.add(part == NUMBER ? number : OPERATION + part);
            return true;
        }

        private void holdToken(int which) {
            if (which >= 0 && which < tape.tokens && which < tape.values.length) {
                token = which;
                key = cell(tape.keys, which);
                value = tape.values[which];
            }
        }

        private boolean takeKey(int due) {
            if (key != due) {
                return isWrong(MISPLACED);
            }
            holdToken(token + 1);
            return true;
        }

        /** Takes a number; one is ruled out because it is told before. */
        private boolean takeNumber(int least, int most, int ruledOut) {
            if (key != NUMBER) {
                return isWrong(MISPLACED);
            }
            if (value == ruledOut) {
                return isWrong(TWICE);
            }
            if (value < least || value > most) {
                return isWrong(BEYOND);
            }
            taken = (int) value;
            holdToken(token + 1);
            return true;
        }

        private boolean isWrong(int kind) {
            fault = kind + 16 * cell(tape.starts, token);
            return false;
        }
    }

    /** The bars of a form that is being read, as one code that works on a stack. */
    private static final class Bars {
        private final int[] code = new int[MOST_SIGNS];
        private int length;
        // Five levels deep, each leaves four values waiting at most.
        private final int[] stack = new int[32];
        private int height;

        void add(int what) {
            put(code, length, what);
            length++;
        }

        // Whole bars are not kept: only whom they forbid, since all they speak of is the lexicon.
        void weigh(Form form) {
            for (int ahead = 0; ahead < form.words; ahead++) {
                int forbidden = 0;
                for (int behind = 0; behind < form.words; behind++) {
                    forbidden |= holds(form, ahead, behind) ? 1 << behind : 0;
                }
                put(form.barredBehind, ahead, forbidden);
            }
        }

        private boolean holds(Form form, int ahead, int behind) {
            height = 0;
            for (int i = 0; i < length; i++) {
                int what = cell(code, i);
                if (what < OPERATION) {
                    push(what);
                } else if (what >= OPERATION + SORT) {
                    push(factOf(what - OPERATION, form, ahead, behind));
                } else if (what == OPERATION + NOT) {
                    push(pop() == 0 ? 1 : 0);
                } else if (what != OPERATION + ';') {
                    int second = pop();
                    push(joined(what - OPERATION, pop(), second));
                } else if (pop() != 0) {
                    return true;
                }
            }
            return false;
        }

        private static int factOf(int key, Form form, int ahead, int behind) {
            switch (key) {
                case SORT:
                    return cell(form.wordKind, ahead);
                case NEXT:
                    return cell(form.wordKind, behind);
                case LONG:
                    return cell(form.wordBeats, ahead);
                case SHORT:
                    return cell(form.wordBeats, behind);
                default:
                    return form.areRhyming(ahead, behind) ? 1 : 0;
            }
        }

        private static int joined(int key, int first, int second) {
            switch (key) {
                case '+':
                    return first + second;
                case '-':
                    return first - second;
                case '*':
                    return first * second;
                case '<':
                    return first < second ? 1 : 0;
                case '=':
                    return first == second ? 1 : 0;
                case AND:
                    return first != 0 && second != 0 ? 1 : 0;
                default:
                    return first != 0 || second != 0 ? 1 : 0;
            }
        }

        private void push(int value) {
            put(stack, height, value);
            height++;
        }

        private int pop() {
            height--;
            return cell(stack, height);
        }
    }

    /** A form as it is told, its steps made into one turning. */
    private static final class Form {
        private int ends;
        private int steps;
        private int rhymeLines;
        private int wholeLines;
        private int feet;
        private int words;
        private int bars;
        private final int[] from = new int[MOST_ENDS];
        private final int[] rhymesWith = new int[MOST_ENDS];
        private final int[] every = new int[MOST_ENDS];
        private final int[] wordRhyme = new int[MOST_WORDS];
        private final int[] wordBeats = new int[MOST_WORDS];
        private final int[] wordKind = new int[MOST_WORDS];
        private final int[] barredBehind = new int[MOST_WORDS];
        private final int[] spare = new int[MOST_ENDS];

        void begin(int howMany) {
            ends = howMany;
            steps = 0;
            rhymeLines = 0;
            wholeLines = 0;
            feet = 0;
            words = 0;
            bars = 0;
            for (int p = 0; p < MOST_ENDS; p++) {
                put(from, p, p);
            }
            blank(rhymesWith, 0);
            blank(every, 0);
        }

        void copy(Form other) {
            ends = other.ends;
            steps = other.steps;
            rhymeLines = other.rhymeLines;
            wholeLines = other.wholeLines;
            feet = other.feet;
            words = other.words;
            bars = other.bars;
            copyRow(other.from, from);
            copyRow(other.rhymesWith, rhymesWith);
            copyRow(other.every, every);
            copyRow(other.wordRhyme, wordRhyme);
            copyRow(other.wordBeats, wordBeats);
            copyRow(other.wordKind, wordKind);
            copyRow(other.barredBehind, barredBehind);
        }

        void addStep(int step, int first, int second) {
            for (int p = 0; p < ends; p++) {
                put(spare, p, cell(from, sourceOf(step, p, first, second)));
            }
            copyRow(spare, from);
            steps++;
        }

        private int sourceOf(int step, int place, int first, int second) {
            switch (step) {
                case SPIRAL:
                    return spiralSource(ends, place);
                case BACK:
                    return ends - 1 - place;
                case HALVES:
                    return (place & 1) == 0 ? place / 2 : (ends + 1) / 2 + place / 2;
                case THIRDS:
                    return thirdsSource(place);
                case SHIFT:
                    return ends < 1 ? place : Math.floorMod(place - second, ends);
                default:
                    return place == first ? second : place == second ? first : place;
            }
        }

        private int thirdsSource(int place) {
            int second = (ends + 2) / 3;
            int third = second + (ends + 1) / 3;
            if (place < second) {
                return 3 * place;
            }
            return place < third ? 3 * (place - second) + 1 : 3 * (place - third) + 2;
        }

        void addRhyme(int a, int b) {
            put(rhymesWith, a, cell(rhymesWith, a) | 1 << b);
            put(rhymesWith, b, cell(rhymesWith, b) | 1 << a);
            rhymeLines++;
        }

        void addWhole(int place, int often) {
            put(every, place, often);
            wholeLines++;
        }

        void addWord(int rhyme, int beats, int kind) {
            put(wordRhyme, words, rhyme);
            put(wordBeats, words, beats);
            put(wordKind, words, kind);
            words++;
        }

        boolean areRhyming(int a, int b) {
            return cell(wordRhyme, a) == cell(wordRhyme, b);
        }

        boolean forbids(int ahead, int behind) {
            return (cell(barredBehind, ahead) >> behind & 1) != 0;
        }
    }

    /** The cycles of a row that tells of each place from where it takes. */
    private static final class Cycles {
        private final int[] lengths;
        private int size;
        private int number;
        private int longest;
        private int staying;
        private long period;

        Cycles(int most) {
            lengths = new int[most < 1 ? 1 : most];
        }

        void follow(int[] source, int howMany) {
            size = howMany;
            number = 0;
            longest = 0;
            staying = 0;
            period = 1;
            blank(lengths, 0);
            for (int p = 0; p < size; p++) {
                if (cell(lengths, p) == 0) {
                    addCycle(source, p);
                }
            }
        }

        private void addCycle(int[] source, int first) {
            int length = 1;
            int place = cell(source, first);
            for (int i = 1; i < size && place != first; i++) {
                length++;
                place = cell(source, place);
            }
            for (int i = 0; i < length; i++) {
                put(lengths, place, length);
                place = cell(source, place);
            }
            number++;
            longest = Math.max(longest, length);
            staying += length == 1 ? 1 : 0;
            period = leastMultiple(period, length);
        }

        int ofLength(int length) {
            int places = 0;
            for (int p = 0; p < size; p++) {
                places += cell(lengths, p) == length ? 1 : 0;
            }
            return length < 1 ? 0 : places / length;
        }

        private static long leastMultiple(long a, long b) {
            long common = a;
            long rest = b;
            for (int i = 0; i < 100 && rest != 0; i++) {
                long next = common % rest;
                common = rest;
                rest = next;
            }
            return common == 0 ? 0 : a / common * b;
        }
    }

    /** What comes of a form's turning from stanza to stanza. */
    private static final class Stanzas {
        private final Cycles cycles = new Cycles(MOST_ENDS);
        private final int[] from = new int[MOST_ENDS];
        private final int[] to = new int[MOST_ENDS];
        private final int[] classes = new int[MOST_ENDS];
        private final int[] ahead = new int[MOST_ENDS * MOST_ENDS];
        private final int[] row = new int[MOST_ENDS];
        private final int[] spare = new int[MOST_ENDS];
        private int ends;

        void follow(Form form) {
            ends = form.ends;
            copyRow(form.from, from);
            for (int p = 0; p < ends; p++) {
                put(to, cell(from, p), p);
            }
            cycles.follow(from, ends);
            blank(ahead, 0);
            for (int p = 0; p < MOST_ENDS; p++) {
                put(row, p, p);
                put(classes, p, p);
            }
            for (long stanza = 0; stanza < cycles.period; stanza++) {
                addNeighbours();
                addRhymes(form);
                turnRow();
            }
        }

        private void addNeighbours() {
            for (int p = 0; p + 1 < ends; p++) {
                int pair = cell(row, p) * MOST_ENDS + cell(row, p + 1);
                put(ahead, pair, cell(ahead, pair) + 1);
            }
        }

        private void addRhymes(Form form) {
            for (int p = 0; p < ends; p++) {
                int others = cell(form.rhymesWith, p);
                for (int q = 0; others != 0 && q < p; q++) {
                    if ((others >> q & 1) != 0) {
                        joinClasses(cell(classes, cell(row, p)), cell(classes, cell(row, q)));
                    }
                }
            }
        }

        private void joinClasses(int a, int b) {
            if (a == b) {
                return;
            }
            int least = Math.min(a, b);
            int other = Math.max(a, b);
            for (int e = 0; e < ends; e++) {
                if (cell(classes, e) == other) {
                    put(classes, e, least);
                }
            }
        }

        private void turnRow() {
            for (int p = 0; p < ends; p++) {
                put(spare, p, cell(row, cell(from, p)));
            }
            copyRow(spare, row);
        }

        int endAt(long stanza, int place) {
            return walk(from, stanza, place);
        }

        int placeOf(long stanza, int end) {
            return walk(to, stanza, end);
        }

        private int walk(int[] step, long times, int start) {
            int length = cell(cycles.lengths, start);
            long left = length < 1 ? 0 : times % length;
            int place = start;
            for (long i = 0; i < left; i++) {
                place = cell(step, place);
            }
            return place;
        }

        int firstMeeting(int end, int place) {
            int at = end;
            for (int stanza = 0; stanza < ends; stanza++) {
                if (at == place) {
                    return stanza;
                }
                at = cell(to, at);
            }
            return NONE;
        }

        int timesAhead(int a, int b) {
            return cell(ahead, a * MOST_ENDS + b);
        }

        boolean areOneClass(int a, int b) {
            return cell(classes, a) == cell(classes, b);
        }
    }

    /** The lines that are laid down, stanza by stanza. */
    private static final class Draft {
        private final int[] words = new int[MOST_LINES];
        private final int[] texts = new int[MOST_LINES];
        private final int[] beats = new int[MOST_LINES];
        private int length;

        void add(int word, int text, int beat) {
            put(words, length, word);
            put(texts, length, text);
            put(beats, length, beat);
            length++;
        }

        void copy(Draft other) {
            length = other.length;
            copyRow(other.words, words);
            copyRow(other.texts, texts);
            copyRow(other.beats, beats);
        }
    }

    /** A form and a draft that are kept. */
    private static final class Mark {
        private final Form form = new Form();
        private final Draft draft = new Draft();
        private boolean laid;

        void lay(Form keptForm, Draft keptDraft) {
            form.copy(keptForm);
            draft.copy(keptDraft);
            laid = true;
        }
    }

    /** Gives words to ends; what it finds is kept until the form changes. */
    private static final class Filler {
        private static final int ONE_CLASS = 1;
        private static final int AHEAD = 2;
        private static final int BEHIND = 4;
        private static final int RELATIONS = 8;

        private final Form form;
        private final Stanzas stanzas;
        private final int[] first = new int[MOST_FILLED];
        // By what an end is to another one, and its word: the words that the other one may have.
        private final int[] allowed = new int[RELATIONS * MOST_WORDS];
        private final int[] relations = new int[MOST_FILLED * MOST_FILLED];
        // The ends that are given words now, by their rank among them.
        private final int[] chosen = new int[MOST_FILLED];
        private final int[] given = new int[MOST_FILLED];
        // By rank of the next end to be given one, and rank: the words still open.
        private final int[] open = new int[MOST_FILLED * MOST_FILLED];
        private int size;
        private boolean prepared;
        private boolean counted;
        private boolean searched;
        private boolean found;
        private long number;
        private int stuckBits;

        Filler(Form form, Stanzas stanzas) {
            this.form = form;
            this.stanzas = stanzas;
        }

        void forget() {
            prepared = false;
            counted = false;
            searched = false;
            stuckBits = 0;
        }

        long howMany() {
            if (!counted) {
                choose((1 << form.ends) - 1);
                number = ways(0, false);
                counted = true;
            }
            return number;
        }

        boolean canAll() {
            if (!searched) {
                choose((1 << form.ends) - 1);
                found = ways(0, true) > 0;
                copyRow(given, first);
                searched = true;
            }
            return found;
        }

        /** The fewest ends that can't be given words together, as bits; 0 if all can. */
        int fewestStuck() {
            for (int many = 1; many <= form.ends && stuckBits == 0; many++) {
                for (int bits = 1; bits < 1 << form.ends && stuckBits == 0; bits++) {
                    if (Integer.bitCount(bits) == many) {
                        choose(bits);
                        stuckBits = ways(0, true) > 0 ? 0 : bits;
                    }
                }
            }
            return stuckBits;
        }

        private void choose(int bits) {
            if (!prepared) {
                prepare();
            }
            size = 0;
            for (int e = 0; e < form.ends && e < MOST_FILLED; e++) {
                if ((bits >> e & 1) != 0) {
                    put(chosen, size, e);
                    put(open, size, (1 << form.words) - 1);
                    size++;
                }
            }
        }

        private void prepare() {
            for (int a = 0; a < MOST_FILLED; a++) {
                for (int b = 0; b < MOST_FILLED; b++) {
                    int relation = stanzas.areOneClass(a, b) ? ONE_CLASS : 0;
                    relation |= stanzas.timesAhead(a, b) > 0 ? AHEAD : 0;
                    relation |= stanzas.timesAhead(b, a) > 0 ? BEHIND : 0;
                    put(relations, a * MOST_FILLED + b, relation);
                }
            }
            for (int relation = 0; relation < RELATIONS; relation++) {
                for (int word = 0; word < form.words; word++) {
                    put(allowed, relation * MOST_WORDS + word, allowedBy(relation, word));
                }
            }
            prepared = true;
        }

        private int allowedBy(int relation, int word) {
            int bits = 0;
            for (int other = 0; other < form.words; other++) {
                boolean clash = other == word
                    || (relation & ONE_CLASS) != 0 && !form.areRhyming(word, other)
                    || (relation & AHEAD) != 0 && form.forbids(word, other)
                    || (relation & BEHIND) != 0 && form.forbids(other, word);
                bits |= clash ? 0 : 1 << other;
            }
            return bits;
        }

        /** In how many ways the chosen ends from a rank on can be given words; one is enough if asked so. */
        private long ways(int rank, boolean one) {
            if (rank < 0 || rank >= size || rank >= MOST_FILLED) {
                return 0;
            }
            int words = cell(open, rank * MOST_FILLED + rank);
            if (rank == size - 1) {
                // The bits below the lowest one tell its number.
                put(given, rank, Integer.bitCount((words & -words) - 1));
                return Integer.bitCount(words);
            }
            long sum = 0;
            for (int word = 0; word < form.words && !(one && sum > 0); word++) {
                if ((words >> word & 1) != 0) {
                    sum += waysWith(rank, word, one);
                }
            }
            return sum;
        }

        private long waysWith(int rank, int word, boolean one) {
            if (!leavesOpen(rank, word)) {
                return 0;
            }
            put(given, rank, word);
            return ways(rank + 1, one);
        }

        /** Narrows what is open to the ends behind a rank; false if one of them has nothing left. */
        private boolean leavesOpen(int rank, int word) {
            int pairs = cell(chosen, rank) * MOST_FILLED;
            int here = rank * MOST_FILLED;
            for (int later = rank + 1; later < size; later++) {
                int relation = cell(relations, pairs + cell(chosen, later));
                int left = cell(open, here + later) & cell(allowed, relation * MOST_WORDS + word);
                put(open, here + MOST_FILLED + later, left);
                if (left == 0) {
                    return false;
                }
            }
            return true;
        }
    }

    /** Mends the words of a draft; what it finds is kept until the form or the draft changes. */
    private static final class Mender {
        private static final int SETS = 1 << MOST_FILLED;
        private static final int FAR = 1000;

        private final Form form;
        private final Stanzas stanzas;
        private final Draft draft;
        private final int[] given = new int[MOST_FILLED];
        private final int[] changes = new int[MOST_FILLED * MOST_WORDS];
        private final int[] byRhyme = new int[MOST_WORDS];
        // By a set of ends, as bits: 1 if each class is wholly in it or not at all.
        private final int[] unbroken = new int[SETS];
        private final int[] least = new int[SETS];
        private boolean known;
        private int fewest;

        Mender(Form form, Stanzas stanzas, Draft draft) {
            this.form = form;
            this.stanzas = stanzas;
            this.draft = draft;
        }

        void forget() {
            known = false;
        }

        int howMany() {
            if (!known) {
                settle();
                known = true;
            }
            return fewest;
        }

        private void settle() {
            fewest = NONE;
            if (form.ends > MOST_FILLED) {
                return;
            }
            countChanges();
            sortWords();
            findUnbroken();
            blank(given, NONE);
            fewest = cheapest();
            for (int e = 0; e < form.ends && fewest != NONE; e++) {
                giveLeast(e);
            }
        }

        private void giveLeast(int end) {
            for (int word = 0; word < form.words; word++) {
                put(given, end, word);
                if (cheapest() == fewest) {
                    return;
                }
            }
        }

        private void countChanges() {
            blank(changes, 0);
            for (int i = 0; i < draft.length && form.ends > 0; i++) {
                int end = stanzas.endAt(i / form.ends, i % form.ends);
                for (int word = 0; word < form.words; word++) {
                    int pair = end * MOST_WORDS + word;
                    put(changes, pair, cell(changes, pair) + (cell(draft.words, i) == word ? 0 : 1));
                }
            }
        }

        private void sortWords() {
            for (int word = 0; word < form.words; word++) {
                int place = word;
                for (int i = 0; i < word && place > 0; i++) {
                    int before = cell(byRhyme, place - 1);
                    if (cell(form.wordRhyme, before) <= cell(form.wordRhyme, word)) {
                        break;
                    }
                    put(byRhyme, place, before);
                    place--;
                }
                put(byRhyme, place, word);
            }
        }

        private void findUnbroken() {
            for (int bits = 0; bits < 1 << form.ends; bits++) {
                int whole = 1;
                for (int e = 0; e < form.ends; e++) {
                    int head = cell(stanzas.classes, e);
                    whole &= (bits >> e & 1) == (bits >> head & 1) ? 1 : 0;
                }
                put(unbroken, bits, whole);
            }
        }

        /**
         * The fewest changes if the ends that are given a word keep it; NONE: not at all.
         * Word by word it keeps the fewest for each set of ends that have one. The words come rhyme
         * by rhyme, so that behind each rhyme only sets that break no class are right.
         */
        private int cheapest() {
            int all = (1 << form.ends) - 1;
            blank(least, FAR);
            put(least, 0, 0);
            for (int i = 0; i < form.words; i++) {
                int word = cell(byRhyme, i);
                for (int bits = all - 1; bits >= 0; bits--) {
                    if (cell(least, bits) < FAR) {
                        offer(word, bits);
                    }
                }
                if (i + 1 < form.words && !form.areRhyming(word, cell(byRhyme, i + 1))) {
                    dropBroken(all);
                }
            }
            return cell(least, all) < FAR ? cell(least, all) : NONE;
        }

        private void offer(int word, int bits) {
            for (int e = 0; e < form.ends; e++) {
                int kept = cell(given, e);
                if ((bits >> e & 1) == 0 && (kept == NONE || kept == word)) {
                    int more = bits | 1 << e;
                    int sum = cell(least, bits) + cell(changes, e * MOST_WORDS + word);
                    put(least, more, Math.min(cell(least, more), sum));
                }
            }
        }

        private void dropBroken(int all) {
            for (int bits = 0; bits <= all; bits++) {
                if (cell(unbroken, bits) == 0) {
                    put(least, bits, FAR);
                }
            }
        }
    }

    /** Finds the first renaming of places that makes one form the other. */
    private static final class Namer {
        private final int[] names = new int[MOST_ENDS];
        private final int[] hereTints = new int[MOST_ENDS];
        private final int[] thereTints = new int[MOST_ENDS];
        private final int[] spare = new int[MOST_ENDS];
        private final Cycles cycles = new Cycles(MOST_ENDS);
        private final Form here;
        private Form there;
        private int taken;

        Namer(Form form) {
            here = form;
            there = form;
        }

        boolean finds(Form other) {
            there = other;
            if (here.ends != there.ends) {
                return false;
            }
            tint(here, hereTints);
            tint(there, thereTints);
            if (!haveSameTints()) {
                return false;
            }
            taken = 0;
            blank(names, NONE);
            return namesFrom(0);
        }

        // A place's tint is mixed of what no renaming changes, so that places of other tints need not
        // be tried: without it, the search would go through all orders of places that nothing ties.
        private void tint(Form form, int[] tints) {
            cycles.follow(form.from, form.ends);
            for (int p = 0; p < form.ends; p++) {
                put(tints, p, cell(cycles.lengths, p) * 128 + cell(form.every, p));
            }
            for (int again = 0; again < form.ends; again++) {
                for (int p = 0; p < form.ends; p++) {
                    put(spare, p, mixed(form, tints, p));
                }
                copyRow(spare, tints);
            }
        }

        private static int mixed(Form form, int[] tints, int place) {
            // The two factors add up to an odd number, so that no place that stays loses its tint.
            int sum = spread(cell(tints, place)) * 31 + spread(cell(tints, cell(form.from, place))) * 18;
            int others = cell(form.rhymesWith, place);
            for (int q = 0; others != 0 && q < form.ends; q++) {
                sum += (others >> q & 1) != 0 ? spread(cell(tints, q)) : 0;
            }
            return sum;
        }

        private static int spread(int tint) {
            return (tint ^ tint >>> 15) * 73471 + 5;
        }

        private boolean haveSameTints() {
            for (int p = 0; p < here.ends; p++) {
                int surplus = 0;
                for (int q = 0; q < here.ends; q++) {
                    surplus += cell(hereTints, q) == cell(hereTints, p) ? 1 : 0;
                    surplus -= cell(thereTints, q) == cell(hereTints, p) ? 1 : 0;
                }
                if (surplus != 0) {
                    return false;
                }
            }
            return true;
        }

        /** Names the places from one on that have no name yet, the least names first. */
        private boolean namesFrom(int place) {
            if (place < 0 || place >= here.ends || place >= MOST_ENDS) {
                return true;
            }
            if (cell(names, place) != NONE) {
                return namesFrom(place + 1);
            }
            for (int name = 0; name < there.ends; name++) {
                if ((taken >> name & 1) == 0 && namesWith(place, name)) {
                    return true;
                }
            }
            return false;
        }

        private boolean namesWith(int place, int name) {
            if (givesCycle(place, name) && namesFrom(place + 1)) {
                return true;
            }
            takeCycleBack(place);
            return false;
        }

        // One name settles those of its whole cycle.
        private boolean givesCycle(int place, int name) {
            int p = place;
            int n = name;
            for (int i = 0; i < here.ends && cell(names, p) == NONE; i++) {
                if ((taken >> n & 1) != 0 || !fits(p, n)) {
                    return false;
                }
                put(names, p, n);
                taken |= 1 << n;
                p = cell(here.from, p);
                n = cell(there.from, n);
            }
            return cell(names, p) == n;
        }

        private boolean fits(int place, int name) {
            if (cell(hereTints, place) != cell(thereTints, name)
                    || cell(here.every, place) != cell(there.every, name)) {
                return false;
            }
            for (int q = 0; q < here.ends; q++) {
                int other = cell(names, q);
                if (other != NONE && (cell(here.rhymesWith, place) >> q & 1)
                        != (cell(there.rhymesWith, name) >> other & 1)) {
                    return false;
                }
            }
            return true;
        }

        private void takeCycleBack(int place) {
            int p = place;
            for (int i = 0; i < here.ends && cell(names, p) != NONE; i++) {
                taken &= ~(1 << cell(names, p));
                put(names, p, NONE);
                p = cell(here.from, p);
            }
        }
    }
}
