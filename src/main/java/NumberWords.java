import java.util.Arrays;

/**
 * Numbers told in words: three tongues, each told in a text, that name the numbers 0 to 999; their
 * names by parts, in order and read back; chains, misheard names and squares of letters.
 *
 * <p>A tongue's names are all made when its text is read, so that every other call only looks them up.
 */
public final class NumberWords {
    public static final int NONE = -1, UNKNOWN = -1001, OUTSIDE = -1002, NOT = -1003, FULL = -1004;

    private static final int NUMBERS = 1000;
    private static final int TONGUES = 3;
    private static final int MOST_BYTES = 60;
    private static final int FEED_MOST = 8;
    private static final int ALPHABET = 26;
    private static final int MIXED_FAR = 9;
    private static final int MIXED_SPAN = 60;
    private static final int SQUARE_STEPS = 60;

    private final Text text;
    private final Clauses clauses;
    private final Grammar grammar;
    private final Tongue[] tongues;
    private final Namer namer;
    private final Sorter sorter;
    private final Line draft;
    private final Line draftRun;
    private final Spellings draftKey;
    private final Distance distance;
    private final Square cells;

    public NumberWords() {
        text = new Text();
        clauses = new Clauses();
        grammar = new Grammar(text, clauses);
        tongues = new Tongue[TONGUES];
        for (int i = 0; i < TONGUES; i++) {
            tongues[i] = new Tongue();
        }
        namer = new Namer(clauses);
        sorter = new Sorter();
        draft = new Line();
        draftRun = new Line();
        draftKey = new Spellings(1);
        distance = new Distance();
        cells = new Square();
    }

    // ---- tongues

    public int feed(int n, long bytes) {
        if (n < 1 || n > FEED_MOST) {
            return OUTSIDE;
        }
        if (!text.hasRoomFor(n)) {
            return FULL;
        }
        for (int i = n - 1; i >= 0; i--) {
            text.append((byte) (bytes >> (8 * i)));
        }
        return text.size();
    }

    public int read(int tongue) {
        if (!isTongue(tongue)) {
            return UNKNOWN;
        }
        boolean sound = grammar.parse();
        if (sound) {
            namer.nameAll(tongues[tongue]);
        }
        text.empty();
        return sound ? clauses.count() : -10 - grammar.faultNumber();
    }

    public int fault() {
        return grammar.faultByte();
    }

    public int about(int tongue, int what) {
        if (!isTongue(tongue)) {
            return UNKNOWN;
        }
        Tongue told = tongues[tongue];
        switch (what) {
            case 0:
                return told.clauseCount();
            case 1:
                return told.namedCount();
            case 2:
                return told.greatestNamed();
            case 3:
                return told.leastNameless();
            case 4:
                return told.honestCount();
            case 5:
                return text.size();
            case 6:
                return draft.size();
            default:
                return OUTSIDE;
        }
    }

    // ---- names

    public int name(int tongue, int n, int i) {
        if (!isTongue(tongue) || !isNumber(n)) {
            return UNKNOWN;
        }
        return tongues[tongue].sizeOrByte(n, i);
    }

    public int letters(int tongue, int n) {
        if (!isTongue(tongue) || !isNumber(n)) {
            return UNKNOWN;
        }
        return tongues[tongue].lettersOf(n);
    }

    public int by(int tongue, int n) {
        if (!isTongue(tongue) || !isNumber(n)) {
            return UNKNOWN;
        }
        return tongues[tongue].clauseOf(n);
    }

    public int deep(int tongue, int n) {
        if (!isTongue(tongue) || !isNumber(n)) {
            return UNKNOWN;
        }
        return tongues[tongue].depthOf(n);
    }

    public int uses(int tongue, int letter, int a, int b) {
        if (!isTongue(tongue) || !isNumber(a) || !isNumber(b)) {
            return UNKNOWN;
        }
        if (!isLetter(letter) || b < a) {
            return OUTSIDE;
        }
        int sum = 0;
        for (int n = a; n <= b; n++) {
            sum += tongues[tongue].countOf('a' + letter, n);
        }
        return sum;
    }

    public int first(int tongue, int letter) {
        if (!isTongue(tongue)) {
            return UNKNOWN;
        }
        if (!isLetter(letter)) {
            return OUTSIDE;
        }
        for (int n = 0; n < NUMBERS; n++) {
            if (tongues[tongue].countOf('a' + letter, n) > 0) {
                return n;
            }
        }
        return NONE;
    }

    public int song(int tongue, int a, int b) {
        if (!isTongue(tongue) || !isNumber(a) || !isNumber(b)) {
            return UNKNOWN;
        }
        if (b < a) {
            return OUTSIDE;
        }
        int sum = 0;
        for (int n = a; n <= b; n++) {
            sum += Math.max(0, tongues[tongue].lettersOf(n));
        }
        return sum;
    }

    // ---- order, twins

    public int order(int tongue, int i) {
        if (!isTongue(tongue)) {
            return UNKNOWN;
        }
        return tongues[tongue].numberAt(i, sorter);
    }

    public int place(int tongue, int n) {
        if (!isTongue(tongue) || !isNumber(n)) {
            return UNKNOWN;
        }
        return tongues[tongue].placeOf(n, sorter);
    }

    public int twins(int tongue, int what) {
        if (!isTongue(tongue)) {
            return UNKNOWN;
        }
        Tongue told = tongues[tongue];
        switch (what) {
            case 0:
                return told.lesserTwin(sorter);
            case 1:
                return told.greaterTwin(sorter);
            case 2:
                return told.twinCount(sorter);
            default:
                return OUTSIDE;
        }
    }

    // ---- the draft

    public int write(int c) {
        if (c != ' ' && (c < 'a' || c > 'z')) {
            return OUTSIDE;
        }
        if (!draft.append(Line.signOf(c), 1)) {
            return FULL;
        }
        if (c != ' ') {
            draftRun.append(Line.signOf(c), 1);
        }
        return draft.size();
    }

    public int clear() {
        int had = draft.size();
        draft.empty();
        draftRun.empty();
        return had;
    }

    public int find(int tongue, boolean run, int i) {
        if (!isTongue(tongue)) {
            return UNKNOWN;
        }
        draftKey.put(0, run ? draftRun : draft);
        if (i != NONE) {
            return tongues[tongue].reading(draftKey, run, i);
        }
        return tongues[tongue].readings(draftKey, run);
    }

    public int nearest(int tongue, int what) {
        if (!isTongue(tongue)) {
            return UNKNOWN;
        }
        if (what != 0 && what != 1) {
            return OUTSIDE;
        }
        draftKey.put(0, draftRun);
        distance.from(draftKey, 0);
        Tongue told = tongues[tongue];
        int best = NONE;
        int bestFar = MOST_BYTES + 1;
        for (int n = 0; n < NUMBERS && bestFar > 0; n++) {
            // Two runs are at least as far as their lengths differ, so most need no closer look.
            if (told.has(n) && Math.abs(told.lettersOf(n) - distance.size()) < bestFar) {
                int far = told.farFrom(distance, n);
                if (far < bestFar) {
                    best = n;
                    bestFar = far;
                }
            }
        }
        return what == 0 || best == NONE ? best : bestFar;
    }

    public int led(int a, int b, int i) {
        if (!isTongue(a) || !isTongue(b)) {
            return UNKNOWN;
        }
        draftKey.put(0, draft);
        int n = tongues[a].reading(draftKey, false, 0);
        if (n == NONE || !tongues[b].has(n)) {
            return NOT;
        }
        return tongues[b].sizeOrByte(n, i);
    }

    // ---- chains, mixed up, squares

    public int chain(int tongue, int n, int what) {
        if (!isTongue(tongue) || !isNumber(n)) {
            return UNKNOWN;
        }
        if (what < 0 || what > 2) {
            return OUTSIDE;
        }
        Tongue told = tongues[tongue];
        int count = 1;
        int last = n;
        int again = NONE;
        // All behind the start are LETTERS, 0 to 60: one bit each in a long tells which have come.
        long came = 0;
        for (int step = 0; step <= MOST_BYTES + 1 && told.has(last) && again == NONE; step++) {
            int next = told.lettersOf(last);
            if (next == n || (came >> next & 1) != 0) {
                again = next;
            } else {
                came |= 1L << next;
                last = next;
                count++;
            }
        }
        if (what == 0) {
            return count;
        }
        return what == 1 ? last : again;
    }

    public int honest(int tongue, int i) {
        if (!isTongue(tongue)) {
            return UNKNOWN;
        }
        return tongues[tongue].honestAt(i);
    }

    public int far(int tongue, int n, int m) {
        if (!isTongue(tongue) || !isNumber(n) || !isNumber(m)) {
            return UNKNOWN;
        }
        Tongue told = tongues[tongue];
        if (!told.has(n) || !told.has(m)) {
            return NONE;
        }
        told.measureFrom(distance, n);
        return told.farFrom(distance, m);
    }

    public int mixed(int tongue, int d, int a, int b) {
        if (!isTongue(tongue) || !isNumber(a) || !isNumber(b)) {
            return UNKNOWN;
        }
        if (d < 0 || d > MIXED_FAR || b < a || b - a > MIXED_SPAN) {
            return OUTSIDE;
        }
        int pairs = 0;
        for (int n = a; n < b; n++) {
            pairs += mixedWith(tongues[tongue], d, n, b);
        }
        return pairs;
    }

    public int square(int tongue, int m, int u, int v) {
        if (!isTongue(tongue)) {
            return UNKNOWN;
        }
        if (!isNumber(m) || Math.abs((long) u) >= NUMBERS || Math.abs((long) v) >= NUMBERS) {
            return OUTSIDE;
        }
        if (!cells.lay(m, u, v)) {
            return NONE;
        }
        return cells.holdsIn(tongues[tongue]) ? 1 : 0;
    }

    public int squares(int tongue, int m) {
        if (!isTongue(tongue) || !isNumber(m)) {
            return UNKNOWN;
        }
        for (int u = 1; u <= SQUARE_STEPS; u++) {
            for (int v = 1; v <= SQUARE_STEPS; v++) {
                if (cells.lay(m, u, v) && cells.holdsIn(tongues[tongue]) && cells.isUnlike()) {
                    return u * 100 + v;
                }
            }
        }
        return NONE;
    }

    /** How many NUMBERS above n, up to b, are mixed up with n. */
    private int mixedWith(Tongue told, int d, int n, int b) {
        if (!told.has(n)) {
            return 0;
        }
        told.measureFrom(distance, n);
        int pairs = 0;
        for (int m = n + 1; m <= b; m++) {
            if (told.has(m) && told.farFrom(distance, m) <= d) {
                pairs++;
            }
        }
        return pairs;
    }

    private static boolean isTongue(int tongue) {
        return tongue >= 0 && tongue < TONGUES;
    }

    private static boolean isNumber(int n) {
        return n >= 0 && n < NUMBERS;
    }

    private static boolean isLetter(int letter) {
        return letter >= 0 && letter < ALPHABET;
    }

    /** THE TEXT, and the place up to which it has been read. */
    private static final class Text {
        private static final int MOST = 240;

        private final byte[] bytes = new byte[MOST];
        private int size;
        private int at;

        boolean hasRoomFor(int more) {
            return size + more <= MOST;
        }

        void append(byte b) {
            if (size < MOST) {
                bytes[size++] = b;
            }
        }

        void empty() {
            size = 0;
            at = 0;
        }

        int size() {
            return size;
        }

        int at() {
            return at;
        }

        void moveTo(int next) {
            at = next;
        }

        void skipBlanks() {
            while (at < size && bytes[at] == ' ') {
                at++;
            }
        }

        int current() {
            return byteAt(at);
        }

        int byteAt(int i) {
            return i >= 0 && i < size ? bytes[i] & 255 : NONE;
        }

        /** The end of the bytes from low to high that stand here side by side. */
        int endOf(char low, char high) {
            int end = at;
            while (end < size && bytes[end] >= low && bytes[end] <= high) {
                end++;
            }
            return end;
        }

        /** Whether just this word stands here, not a longer one that begins so. */
        boolean wordIs(String word) {
            if (endOf('a', 'z') - at != word.length()) {
                return false;
            }
            for (int i = 0; i < word.length(); i++) {
                if (byteAt(at + i) != word.charAt(i)) {
                    return false;
                }
            }
            return true;
        }
    }

    /** What the latest text told: a word is kept as a clause for one NUMBER, by 0, with one part. */
    private static final class Clauses {
        private static final int MOST = 12;
        private static final int MOST_PARTS = 8;
        private static final int LETTERS = 0;

        private int count;
        private final int[] from = new int[MOST];
        private final int[] to = new int[MOST];
        private final int[] unit = new int[MOST];
        private final int[] parts = new int[MOST];
        // Of each part, eight to a clause: LETTERS or the letter behind '#'; its letters as signs.
        private final int[] kind = new int[MOST * MOST_PARTS];
        private final boolean[] bracketed = new boolean[MOST * MOST_PARTS];
        private final long[] signs = new long[MOST * MOST_PARTS];
        private final int[] signCount = new int[MOST * MOST_PARTS];

        void empty() {
            count = 0;
        }

        int count() {
            return count;
        }

        boolean isFull() {
            return count >= MOST;
        }

        boolean hasWord(int n) {
            for (int i = 0; i < count; i++) {
                if (isWord(i) && from[i] == n) {
                    return true;
                }
            }
            return false;
        }

        boolean isWord(int clause) {
            return unit[clause] == 0;
        }

        void open(int a, int b, int u) {
            if (count < MOST) {
                from[count] = a;
                to[count] = b;
                unit[count] = u;
                parts[count] = 0;
                count++;
            }
        }

        /** How many parts the latest clause has. */
        int latestParts() {
            return count == 0 ? 0 : parts[count - 1];
        }

        void addPart(int partKind, boolean inBrackets, long letters, int letterCount) {
            if (count > 0 && parts[count - 1] < MOST_PARTS) {
                int part = (count - 1) * MOST_PARTS + parts[count - 1];
                kind[part] = partKind;
                bracketed[part] = inBrackets;
                signs[part] = letters;
                signCount[part] = letterCount;
                parts[count - 1]++;
            }
        }
    }

    /** Reads THE TEXT into clauses, up to its first fault. */
    private static final class Grammar {
        private static final int CANNOT_STAND = 1;
        private static final int WRONG_NUMBER = 2;
        private static final int SECOND_WORD = 3;
        private static final int LONG_WORD = 4;
        private static final int CLAUSE_TOO_MANY = 5;
        private static final int PART_TOO_MANY = 6;
        private static final int FIGURES = 3;
        private static final int WORD_MOST = 12;
        private static final int UNIT_LEAST = 2;
        private static final int UNIT_MOST = 500;

        private final Text text;
        private final Clauses clauses;
        private int faultNumber;
        private int faultByte = NONE;

        Grammar(Text text, Clauses clauses) {
            this.text = text;
            this.clauses = clauses;
        }

        int faultNumber() {
            return faultNumber;
        }

        int faultByte() {
            return faultByte;
        }

        boolean parse() {
            faultNumber = 0;
            faultByte = NONE;
            clauses.empty();
            text.moveTo(0);
            // One round more than there may be clauses: the last one finds the end or the fault.
            for (int i = 0; i <= Clauses.MOST; i++) {
                text.skipBlanks();
                if (text.current() == NONE) {
                    return true;
                }
                if (!parseClause()) {
                    return false;
                }
            }
            return false;
        }

        private boolean parseClause() {
            boolean isWord = text.wordIs("word");
            if (!isWord && !text.wordIs("for")) {
                return fail(CANNOT_STAND, text.at());
            }
            if (clauses.isFull()) {
                return fail(CLAUSE_TOO_MANY, text.at());
            }
            return isWord ? parseWord() : parseHead() && parseParts();
        }

        private boolean parseWord() {
            if (!parseKeyword("word")) {
                return false;
            }
            text.skipBlanks();
            int place = text.at();
            int n = parseNumber(0, NUMBERS - 1);
            if (n == NONE) {
                return false;
            }
            if (clauses.hasWord(n)) {
                return fail(SECOND_WORD, place);
            }
            clauses.open(n, n, 0);
            text.skipBlanks();
            return parseLetters(false) && parseSign(';');
        }

        /** A clause from 'for' to its colon. */
        private boolean parseHead() {
            if (!parseKeyword("for")) {
                return false;
            }
            int a = parseNumber(0, NUMBERS - 1);
            if (a == NONE || !parseKeyword("to")) {
                return false;
            }
            int b = parseNumber(a, NUMBERS - 1);
            if (b == NONE || !parseKeyword("by")) {
                return false;
            }
            int u = parseNumber(UNIT_LEAST, UNIT_MOST);
            if (u == NONE || !parseSign(':')) {
                return false;
            }
            clauses.open(a, b, u);
            return true;
        }

        private boolean parseParts() {
            // How many parts stood ahead of the bracket that is open; NONE: none is open.
            int opened = NONE;
            for (int i = 0; i <= Text.MOST; i++) {
                text.skipBlanks();
                int c = text.current();
                int parts = clauses.latestParts();
                if (c == ';' && opened == NONE && parts > 0) {
                    return parseSign(';');
                }
                if (c == '[' && opened == NONE) {
                    opened = parts;
                    text.moveTo(text.at() + 1);
                } else if (c == ']' && opened != NONE && parts > opened) {
                    opened = NONE;
                    text.moveTo(text.at() + 1);
                } else if (!parsePart(c, opened != NONE)) {
                    return false;
                }
            }
            return false;
        }

        private boolean parsePart(int c, boolean inBrackets) {
            if (c != '#' && (c < 'a' || c > 'z')) {
                return fail(CANNOT_STAND, text.at());
            }
            if (clauses.latestParts() >= Clauses.MOST_PARTS) {
                return fail(PART_TOO_MANY, text.at());
            }
            return c == '#' ? parseAsked(inBrackets) : parseLetters(inBrackets);
        }

        private boolean parseAsked(boolean inBrackets) {
            int place = text.at() + 1;
            int c = text.byteAt(place);
            if (c != 'q' && c != 't' && c != 'r' && c != 'c' && c != 'n') {
                return fail(CANNOT_STAND, place);
            }
            clauses.addPart(c, inBrackets, 0, 0);
            text.moveTo(place + 1);
            return true;
        }

        private boolean parseLetters(boolean inBrackets) {
            int start = text.at();
            int end = text.endOf('a', 'z');
            if (end == start) {
                return fail(CANNOT_STAND, start);
            }
            if (end - start > WORD_MOST) {
                return fail(LONG_WORD, start + WORD_MOST);
            }
            clauses.addPart(Clauses.LETTERS, inBrackets, signsOf(start, end), end - start);
            text.moveTo(end);
            return true;
        }

        private long signsOf(int start, int end) {
            long signs = 0;
            for (int i = start; i < end; i++) {
                signs |= Line.signOf(text.byteAt(i)) >>> Line.BITS * (i - start);
            }
            return signs;
        }

        private boolean parseKeyword(String word) {
            text.skipBlanks();
            if (!text.wordIs(word)) {
                return fail(CANNOT_STAND, text.at());
            }
            text.moveTo(text.at() + word.length());
            return true;
        }

        private boolean parseSign(char sign) {
            text.skipBlanks();
            if (text.current() != sign) {
                return fail(CANNOT_STAND, text.at());
            }
            text.moveTo(text.at() + 1);
            return true;
        }

        /** The number that stands here; NONE: a fault. */
        private int parseNumber(int least, int most) {
            text.skipBlanks();
            int start = text.at();
            int end = text.endOf('0', '9');
            if (end == start) {
                fail(CANNOT_STAND, start);
                return NONE;
            }
            int value = 0;
            for (int i = start; i < end && i < start + FIGURES; i++) {
                value = value * 10 + text.byteAt(i) - '0';
            }
            if (end - start > FIGURES || value < least || value > most) {
                fail(WRONG_NUMBER, start);
                return NONE;
            }
            text.moveTo(end);
            return value;
        }

        private boolean fail(int number, int place) {
            faultNumber = number;
            faultByte = place;
            return false;
        }
    }

    /**
     * Up to sixty signs, letters and blanks: THE DRAFT, or a NAME that is being made. Twelve signs
     * stand in a long, the first one highest, so that a line takes a twelfth of the room and whole
     * words are put behind it at once. The signs are in the order of NAMES: 0 is the end, 1 a blank,
     * 2 and on the letters; so lines are compared by their longs.
     */
    private static final class Line {
        private static final int SIGNS = 12;
        private static final int LONGS = MOST_BYTES / SIGNS;
        private static final int BITS = 5;
        private static final int MASK = 31;
        private static final int ALL_BITS = BITS * SIGNS;
        private static final int TOP = ALL_BITS - BITS;
        private static final long FULL_LONG = (1L << ALL_BITS) - 1;
        private static final int BLANK = 1;
        private static final int BEFORE_A = 'a' - BLANK - 1;

        private final long[] packed = new long[LONGS];
        private int size;

        /** A letter or a blank as the first sign of a long. */
        static long signOf(int c) {
            return (long) (c == ' ' ? BLANK : c - BEFORE_A) << TOP;
        }

        static int signIn(long signs, int shift) {
            return (int) (signs >>> shift) & MASK;
        }

        static int byteOf(int sign) {
            return sign == BLANK ? ' ' : sign + BEFORE_A;
        }

        void empty() {
            Arrays.fill(packed, 0);
            size = 0;
        }

        int size() {
            return size;
        }

        long signs(int i) {
            return i >= 0 && i < LONGS ? packed[i] : 0;
        }

        /** Puts the first signs of a long, 1 to 12, behind the line; false: it has no room for them. */
        boolean append(long signs, int count) {
            if (count < 1 || size + count > MOST_BYTES) {
                return false;
            }
            int i = size / SIGNS;
            int used = BITS * (size % SIGNS);
            packed[i] |= signs >>> used;
            if (i + 1 < LONGS) {
                packed[i + 1] |= (signs << (ALL_BITS - used)) & FULL_LONG;
            }
            size += count;
            return true;
        }

        boolean appendRow(Spellings rows, int row, int count) {
            for (int i = 0; i < LONGS && i * SIGNS < count; i++) {
                if (!append(rows.signs(row, i), Math.min(count - i * SIGNS, SIGNS))) {
                    return false;
                }
            }
            return true;
        }
    }

    /** Lines that are kept, each in a row of its own. */
    private static final class Spellings {
        private final long[] packed;

        Spellings(int rows) {
            packed = new long[Math.max(0, rows) * Line.LONGS];
        }

        void put(int row, Line line) {
            int start = row * Line.LONGS;
            for (int i = 0; i < Line.LONGS; i++) {
                if (start >= 0 && start + i < packed.length) {
                    packed[start + i] = line.signs(i);
                }
            }
        }

        /** Twelve signs of a row at once. */
        long signs(int row, int i) {
            int at = row * Line.LONGS + i;
            return at >= 0 && at < packed.length ? packed[at] : 0;
        }

        int byteAt(int row, int i) {
            long signs = signs(row, i / Line.SIGNS);
            return Line.byteOf(Line.signIn(signs, Line.TOP - Line.BITS * (i % Line.SIGNS)));
        }

        int count(int row, int c) {
            int sign = Line.signIn(Line.signOf(c), Line.TOP);
            int found = 0;
            for (int i = 0; i < Line.LONGS; i++) {
                long signs = signs(row, i);
                for (int shift = Line.TOP; shift >= 0; shift -= Line.BITS) {
                    if (Line.signIn(signs, shift) == sign) {
                        found++;
                    }
                }
            }
            return found;
        }

        int compare(int row, Spellings other, int otherRow) {
            for (int i = 0; i < Line.LONGS; i++) {
                int way = Long.compare(signs(row, i), other.signs(otherRow, i));
                if (way != 0) {
                    return way;
                }
            }
            return 0;
        }
    }

    /** The NAMES of one tongue. Its rows are made with it, and every text read into it uses them again. */
    private static final class Tongue {
        private int clauseCount;
        private int namedCount;
        private final Spellings names = new Spellings(NUMBERS);
        private final Spellings runs = new Spellings(NUMBERS);
        private final int[] sizes = new int[NUMBERS];
        private final int[] letterCounts = new int[NUMBERS];
        private final int[] depths = new int[NUMBERS];
        private final int[] clauseOf = new int[NUMBERS];
        private final int[] order = new int[NUMBERS];
        private boolean isOrdered;
        private boolean twinsKnown;
        private int lesserTwin;
        private int greaterTwin;
        private int twinCount;

        Tongue() {
            // A new row holds sizes of 0, and those would be NAMES of 0 bytes.
            restart(0);
        }

        /** From now on it has this many clauses and, until they are put, no NAMES. */
        void restart(int clauses) {
            clauseCount = clauses;
            namedCount = 0;
            Arrays.fill(sizes, NONE);
            isOrdered = false;
            twinsKnown = false;
        }

        void putName(int n, Line name, Line run, int clause, int depth) {
            if (n >= 0 && n < sizes.length) {
                names.put(n, name);
                runs.put(n, run);
                sizes[n] = name.size();
                letterCounts[n] = run.size();
                depths[n] = depth;
                clauseOf[n] = clause;
                namedCount++;
            }
        }

        boolean has(int n) {
            return n >= 0 && n < sizes.length && sizes[n] != NONE;
        }

        int clauseCount() {
            return clauseCount;
        }

        int namedCount() {
            return namedCount;
        }

        int greatestNamed() {
            for (int n = NUMBERS - 1; n >= 0; n--) {
                if (has(n)) {
                    return n;
                }
            }
            return NONE;
        }

        int leastNameless() {
            for (int n = 0; n < NUMBERS; n++) {
                if (!has(n)) {
                    return n;
                }
            }
            return NONE;
        }

        int lettersOf(int n) {
            return has(n) ? letterCounts[n] : NONE;
        }

        int clauseOf(int n) {
            return has(n) ? clauseOf[n] : NONE;
        }

        int depthOf(int n) {
            return has(n) ? depths[n] : NONE;
        }

        int sizeOf(int n) {
            return has(n) ? sizes[n] : NONE;
        }

        /** Byte i of the NAME; i is NONE: how many it has. */
        int sizeOrByte(int n, int i) {
            if (i == NONE) {
                return sizeOf(n);
            }
            return i >= 0 && i < sizeOf(n) ? names.byteAt(n, i) : NONE;
        }

        int countOf(int c, int n) {
            return has(n) ? names.count(n, c) : 0;
        }

        private boolean isHonest(int n) {
            return has(n) && letterCounts[n] == n;
        }

        int honestCount() {
            int count = 0;
            for (int n = 0; n <= MOST_BYTES; n++) {
                if (isHonest(n)) {
                    count++;
                }
            }
            return count;
        }

        int honestAt(int i) {
            int ahead = 0;
            for (int n = 0; n <= MOST_BYTES; n++) {
                if (isHonest(n) && ahead++ == i) {
                    return n;
                }
            }
            return NONE;
        }

        private boolean isReadAs(Spellings key, boolean run, int n) {
            return has(n) && (run ? runs : names).compare(n, key, 0) == 0;
        }

        int readings(Spellings key, boolean run) {
            int count = 0;
            for (int n = 0; n < NUMBERS; n++) {
                if (isReadAs(key, run, n)) {
                    count++;
                }
            }
            return count;
        }

        int reading(Spellings key, boolean run, int i) {
            int ahead = 0;
            for (int n = 0; n < NUMBERS; n++) {
                if (isReadAs(key, run, n) && ahead++ == i) {
                    return n;
                }
            }
            return NONE;
        }

        boolean appendTo(Line name, Line run, int n) {
            return name.appendRow(names, n, sizeOf(n)) && run.appendRow(runs, n, lettersOf(n));
        }

        void measureFrom(Distance distance, int n) {
            distance.from(runs, n);
        }

        int farFrom(Distance distance, int n) {
            return distance.to(runs, n);
        }

        private void putNamedInto(int[] row) {
            int count = 0;
            for (int n = 0; n < NUMBERS; n++) {
                if (has(n) && count < row.length) {
                    row[count++] = n;
                }
            }
        }

        private void bringInOrder(Sorter sorter) {
            if (!isOrdered) {
                putNamedInto(order);
                sorter.sort(order, namedCount, names);
                isOrdered = true;
            }
        }

        int numberAt(int i, Sorter sorter) {
            bringInOrder(sorter);
            return i >= 0 && i < namedCount && i < order.length ? order[i] : NONE;
        }

        int placeOf(int n, Sorter sorter) {
            bringInOrder(sorter);
            for (int i = 0; i < namedCount && i < order.length; i++) {
                if (order[i] == n) {
                    return i;
                }
            }
            return NONE;
        }

        int lesserTwin(Sorter sorter) {
            seekTwins(sorter);
            return lesserTwin;
        }

        int greaterTwin(Sorter sorter) {
            seekTwins(sorter);
            return greaterTwin;
        }

        int twinCount(Sorter sorter) {
            seekTwins(sorter);
            return twinCount;
        }

        private void seekTwins(Sorter sorter) {
            if (twinsKnown) {
                return;
            }
            int[] row = sorter.bench();
            putNamedInto(row);
            sorter.sort(row, namedCount, runs);
            lesserTwin = NONE;
            greaterTwin = NONE;
            twinCount = 0;
            int groupStart = 0;
            for (int i = 1; i < namedCount && i < row.length; i++) {
                if (runs.compare(row[groupStart], runs, row[i]) != 0) {
                    groupStart = i;
                } else if (i == groupStart + 1) {
                    twinCount += 2;
                    chooseFirst(row[groupStart], row[i]);
                } else {
                    twinCount++;
                }
            }
            twinsKnown = true;
        }

        /** Of one RUN the two least come here, so the least greater one has its least lesser one. */
        private void chooseFirst(int lesser, int greater) {
            if (greaterTwin == NONE || greater < greaterTwin) {
                lesserTwin = lesser;
                greaterTwin = greater;
            }
        }
    }

    /** Makes all NAMES of a tongue from the clauses of a text. */
    private static final class Namer {
        private static final int MOST_DEEP = 8;

        private final Clauses clauses;
        private final Line name = new Line();
        private final Line run = new Line();
        private final int[] chosen = new int[NUMBERS];
        private int deepestPart;

        Namer(Clauses clauses) {
            this.clauses = clauses;
        }

        /**
         * In every round those get their NAMES whose parts have theirs, so after eight rounds there
         * are all that are eight deep or less; those that ask for themselves never get one.
         */
        void nameAll(Tongue tongue) {
            tongue.restart(clauses.count());
            chooseClauses();
            boolean grew = true;
            for (int round = 0; round < MOST_DEEP && grew; round++) {
                grew = false;
                for (int n = 0; n < NUMBERS; n++) {
                    if (chosen[n] != NONE && !tongue.has(n) && spell(tongue, chosen[n], n)) {
                        tongue.putName(n, name, run, chosen[n], deepestPart + 1);
                        grew = true;
                    }
                }
            }
        }

        private void chooseClauses() {
            Arrays.fill(chosen, NONE);
            // From the last one on, so that the first clause for a NUMBER is the one that stays.
            for (int i = clauses.count() - 1; i >= 0; i--) {
                if (!clauses.isWord(i)) {
                    choose(i);
                }
            }
            for (int i = 0; i < clauses.count(); i++) {
                if (clauses.isWord(i)) {
                    choose(i);
                }
            }
        }

        private void choose(int clause) {
            for (int n = clauses.from[clause]; n <= clauses.to[clause] && n < NUMBERS; n++) {
                chosen[n] = clause;
            }
        }

        /** Puts the NAME of n and its RUN on their lines; false: it has none, or not yet. */
        private boolean spell(Tongue tongue, int clause, int n) {
            name.empty();
            run.empty();
            deepestPart = 0;
            int unit = clauses.unit[clause];
            int rest = unit > 0 ? n % unit : 0;
            int first = clause * Clauses.MOST_PARTS;
            for (int part = first; part < first + clauses.parts[clause]; part++) {
                if (clauses.bracketed[part] && rest == 0) {
                    continue;
                }
                boolean fits = clauses.kind[part] == Clauses.LETTERS
                        ? addLetters(clauses.signs[part], clauses.signCount[part])
                        : addName(tongue, asked(clauses.kind[part], n, rest, unit));
                if (!fits) {
                    return false;
                }
            }
            return deepestPart < MOST_DEEP;
        }

        /** Which NUMBER a part asks for; NONE: none. */
        private static int asked(int kind, int n, int rest, int unit) {
            switch (kind) {
                case 'q':
                    return unit > 0 ? n / unit : NONE;
                case 't':
                    return n - rest;
                case 'r':
                    return rest;
                case 'c':
                    return unit - rest;
                case 'n':
                    return n - rest + unit;
                default:
                    return NONE;
            }
        }

        private boolean addLetters(long signs, int count) {
            return addGap() && name.append(signs, count) && run.append(signs, count);
        }

        private boolean addName(Tongue tongue, int n) {
            if (!tongue.has(n)) {
                return false;
            }
            deepestPart = Math.max(deepestPart, tongue.depthOf(n));
            // A part of 0 bytes is left out, and no blank stands for it.
            return tongue.sizeOf(n) == 0 || addGap() && tongue.appendTo(name, run, n);
        }

        private boolean addGap() {
            return name.size() == 0 || name.append(Line.signOf(' '), 1);
        }
    }

    /** Sorts NUMBERS by their spellings; of like ones the one that stood ahead stays ahead. */
    private static final class Sorter {
        private final int[] spare = new int[NUMBERS];
        private final int[] bench = new int[NUMBERS];

        /** A row for whoever needs one for the time of a single call. */
        int[] bench() {
            return bench;
        }

        void sort(int[] row, int count, Spellings keys) {
            int all = Math.min(count, Math.min(row.length, NUMBERS));
            for (int width = 1; width < all; width += width) {
                for (int from = 0; from + width < all; from += width + width) {
                    merge(row, from, from + width, Math.min(from + width + width, all), keys);
                }
            }
        }

        private void merge(int[] row, int from, int middle, int end, Spellings keys) {
            System.arraycopy(row, from, spare, from, middle - from);
            int left = from;
            int right = middle;
            // Once the left side is used up, what is left of the right side stands where it belongs.
            for (int to = from; to < end && left < middle; to++) {
                if (right >= end || keys.compare(spare[left], keys, row[right]) <= 0) {
                    row[to] = spare[left++];
                } else {
                    row[to] = row[right++];
                }
            }
        }
    }

    /**
     * How far one run is from others, by Myers' way: of the usual table of distances a whole column
     * is held in two longs, a bit for each step down in which it rises or falls by one. A run has at
     * most sixty letters, so it always fits.
     */
    private static final class Distance {
        private final long[] places = new long[Line.MASK + 1];
        private int size;

        int size() {
            return size;
        }

        void from(Spellings rows, int row) {
            Arrays.fill(places, 0);
            size = 0;
            for (int i = 0; i < Line.LONGS; i++) {
                long signs = rows.signs(row, i);
                for (int shift = Line.TOP; shift >= 0; shift -= Line.BITS) {
                    int sign = Line.signIn(signs, shift);
                    if (sign == 0) {
                        return;
                    }
                    places[sign] |= 1L << size;
                    size++;
                }
            }
        }

        int to(Spellings rows, int row) {
            long rises = -1;
            long falls = 0;
            long bottom = size > 0 ? 1L << (size - 1) : 0;
            int far = size;
            for (int i = 0; i < Line.LONGS; i++) {
                long signs = rows.signs(row, i);
                for (int shift = Line.TOP; shift >= 0; shift -= Line.BITS) {
                    int sign = Line.signIn(signs, shift);
                    if (sign == 0) {
                        return far;
                    }
                    long same = places[sign];
                    long diagonal = (((same & rises) + rises) ^ rises) | same;
                    long across = falls | ~(diagonal | rises);
                    long back = rises & diagonal;
                    if (size == 0 || (across & bottom) != 0) {
                        far++;
                    } else if ((back & bottom) != 0) {
                        far--;
                    }
                    // The table's uppermost row rises by one with each letter.
                    across = across << 1 | 1;
                    rises = back << 1 | ~(same | falls | across);
                    falls = across & (same | falls);
                }
            }
            return far;
        }
    }

    /** The nine NUMBERS of a square. */
    private static final class Square {
        private static final int CELLS = 9;
        private static final int SIDE = 3;
        /** Where the three cells of each row, each column and both diagonals stand. */
        private static final int[] LINES = {
            0, 1, 2, 3, 4, 5, 6, 7, 8, 0, 3, 6, 1, 4, 7, 2, 5, 8, 0, 4, 8, 2, 4, 6
        };

        private final int[] cells = new int[CELLS];

        /** Whether all nine are NUMBERS. */
        boolean lay(int m, int u, int v) {
            cells[0] = m + u;
            cells[1] = m - u - v;
            cells[2] = m + v;
            cells[3] = m - u + v;
            cells[4] = m;
            cells[5] = m + u - v;
            cells[6] = m - v;
            cells[7] = m + u + v;
            cells[8] = m - u;
            for (int i = 0; i < CELLS; i++) {
                if (cells[i] < 0 || cells[i] >= NUMBERS) {
                    return false;
                }
            }
            return true;
        }

        boolean isUnlike() {
            for (int i = 0; i < CELLS; i++) {
                for (int j = 0; j < i; j++) {
                    if (cells[i] == cells[j]) {
                        return false;
                    }
                }
            }
            return true;
        }

        /** Whether it holds in the letters of a tongue, too. */
        boolean holdsIn(Tongue tongue) {
            for (int i = 0; i < CELLS; i++) {
                if (!tongue.has(cells[i])) {
                    return false;
                }
            }
            int sum = lineSum(tongue, 0);
            for (int line = SIDE; line < LINES.length; line += SIDE) {
                if (lineSum(tongue, line) != sum) {
                    return false;
                }
            }
            return true;
        }

        private int lineSum(Tongue tongue, int line) {
            int sum = 0;
            for (int i = line; i < line + SIDE && i < LINES.length; i++) {
                sum += tongue.lettersOf(cells[LINES[i]]);
            }
            return sum;
        }
    }
}
