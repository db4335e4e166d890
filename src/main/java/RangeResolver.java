import java.util.Arrays;

/**
 * A resolver of packages: versions, ranges of versions in sixteen slots, a registry read from a
 * tape of bytes, the best choice of its releases and, where there is none, the reason.
 *
 * <p>All rows are made by the constructor and used again by every call, so that no call makes
 * objects of its own.
 */
public final class RangeResolver {
    /** There is none. */
    public static final int NONE = -1;

    private static final int TAPE_BYTES = 2000;
    private static final int FED_BYTES = 20;
    private static final int SLOTS = 16;
    private static final int STRETCHES = 16;
    private static final int JOINED_STRETCHES = 2 * STRETCHES;
    private static final int MOST_COUNTED = 1000;
    private static final int NOT_TWO_VERSIONS = 2;
    private static final int PLACE_FACTOR = 8;

    private static final int FORM = 1;
    private static final int TOO_MUCH = 2;

    private static final int WRITE_SLOT = 0;
    private static final int WRITE_RELEASE = 1;
    private static final int WRITE_CONSTRAINT = 2;

    private final byte[] tape;
    private int fed;
    private final Range[] slots;
    private final Range joined;
    private final Version firstVersion;
    private final Version secondVersion;
    private final Tokens tokens;
    private final RangeReader rangeReader;
    private Registry registry;
    private Registry draft;
    private final Solver solver;
    private final Finding finding;
    private final Page page;

    public RangeResolver() {
        tape = new byte[TAPE_BYTES];
        fed = 0;
        slots = new Range[SLOTS];
        for (int k = 0; k < SLOTS; k++) {
            slots[k] = new Range(STRETCHES);
            slots[k].setAll();
        }
        joined = new Range(JOINED_STRETCHES);
        firstVersion = new Version();
        secondVersion = new Version();
        tokens = new Tokens();
        rangeReader = new RangeReader();
        registry = new Registry();
        draft = new Registry();
        solver = new Solver(registry);
        finding = new Finding();
        page = new Page();
    }

    public int feed(int a, int b, int c, int d, int e) {
        if (fed + FED_BYTES > TAPE_BYTES) {
            return NONE;
        }
        layFourBytes(a);
        layFourBytes(b);
        layFourBytes(c);
        layFourBytes(d);
        layFourBytes(e);
        return fed;
    }

    public int read(int n) {
        if (!isOnTape(n)) {
            return NONE;
        }
        fed = 0;
        draft.setText(tape, n);
        tokens.scan(draft.text, 0, n);
        int fault = draft.take(tokens, rangeReader);
        if (fault != 0) {
            return fault;
        }
        markReleasesInRanges(draft);
        Registry former = registry;
        registry = draft;
        draft = former;
        finding.forget();
        return 0;
    }

    public int range(int k, int n) {
        if (!isSlot(k) || !isOnTape(n)) {
            return NONE;
        }
        fed = 0;
        tokens.scan(tape, 0, n);
        int fault = rangeReader.check(tokens, 0);
        int stop = rangeReader.stop();
        if (fault == 0 && tokens.kindAt(stop) != Tokens.END) {
            fault = FORM;
        }
        if (fault != 0) {
            return fault + PLACE_FACTOR * tokens.placeAt(stop);
        }
        rangeReader.take(tape, tokens, slots[k]);
        return 0;
    }

    public int order(int n) {
        if (!isOnTape(n)) {
            return NONE - 1;
        }
        fed = 0;
        int first = behindBlanks(0, n);
        int firstEnd = behindSigns(first, n);
        int second = behindBlanks(firstEnd, n);
        int secondEnd = behindSigns(second, n);
        if (behindBlanks(secondEnd, n) != n
                || firstVersion.take(tape, first, firstEnd) != Version.WHOLE
                || secondVersion.take(tape, second, secondEnd) != Version.WHOLE) {
            return NOT_TWO_VERSIONS;
        }
        return Version.compare(firstVersion.row, 0, secondVersion.row, 0);
    }

    public int combine(int how, int a, int b, int c) {
        if (!isSlot(a) || !isSlot(b) || !isSlot(c) || how < Range.AND || how > Range.WITHOUT) {
            return NONE;
        }
        joined.setJoin(how, slots[a], slots[b]);
        if (joined.stretches() > STRETCHES) {
            return NONE;
        }
        slots[c].setTo(joined);
        return joined.stretches();
    }

    public int inside(int a, int b) {
        if (!isSlot(a) || !isSlot(b)) {
            return NONE;
        }
        joined.setJoin(Range.WITHOUT, slots[a], slots[b]);
        return joined.stretches() == 0 ? 1 : 0;
    }

    public int holds(int k, int r) {
        Release release = registry.releaseAt(r);
        if (!isSlot(k) || release == null) {
            return NONE;
        }
        return slots[k].has(release.row) ? 1 : 0;
    }

    public int write(int what, int k) {
        if (what == WRITE_SLOT && isSlot(k)) {
            page.clear();
            page.putRange(slots[k]);
            return page.length();
        }
        if (what == WRITE_RELEASE && registry.releaseAt(k) != null) {
            page.clear();
            page.putRelease(registry, k);
            return page.length();
        }
        Constraint constraint = registry.constraintAt(k);
        if (what == WRITE_CONSTRAINT && constraint != null) {
            page.clear();
            putConstraint(constraint);
            return page.length();
        }
        return NONE;
    }

    public int octet(int i) {
        return page.byteAt(i);
    }

    public int resolve(boolean locked) {
        solver.load(registry);
        if (solver.isPossible()) {
            solver.settle(finding, locked);
            return 1;
        }
        solver.accuse(finding);
        return 0;
    }

    public int chosen(int p) {
        return finding.releaseOf(p);
    }

    public int reason(int i) {
        return finding.accusedAt(i);
    }

    public int solutions(int most) {
        if (most < 1 || most > MOST_COUNTED) {
            return NONE;
        }
        solver.load(registry);
        return solver.tally(most);
    }

    public int why(int p) {
        if (finding.releaseOf(p) == NONE) {
            return NONE;
        }
        return finding.reachedBy(registry, p);
    }

    public int count(int what) {
        switch (what) {
            case 0:
                return registry.packs();
            case 1:
                return registry.releases();
            case 2:
                return registry.constraints();
            case 3:
                return fed;
            case 4:
                return finding.picked();
            case 5:
                return finding.accused();
            default:
                return isSlot(what - SLOTS) ? slots[what - SLOTS].stretches() : NONE;
        }
    }

    private static boolean isSlot(int k) {
        return k >= 0 && k < SLOTS;
    }

    private boolean isOnTape(int n) {
        return n >= 0 && n <= fed;
    }

    private void layFourBytes(int four) {
        for (int shift = 24; shift >= 0; shift -= 8) {
            if (fed < TAPE_BYTES) {
                tape[fed] = (byte) (four >> shift);
                fed++;
            }
        }
    }

    private int behindBlanks(int from, int n) {
        int at = from;
        while (at < n && at < TAPE_BYTES && Tokens.isBlank(tape[at])) {
            at++;
        }
        return at;
    }

    private int behindSigns(int from, int n) {
        int at = from;
        while (at < n && at < TAPE_BYTES && !Tokens.isBlank(tape[at])) {
            at++;
        }
        return at;
    }

    /** The ranges of a registry aren't kept: only which releases are in them, and where they stand. */
    private void markReleasesInRanges(Registry from) {
        for (int c = 0; c < from.constraints(); c++) {
            Constraint constraint = from.constraintAt(c);
            if (constraint != null) {
                tokens.scan(from.text, constraint.rangeFrom, constraint.rangeTo);
                rangeReader.take(from.text, tokens, joined);
                constraint.within = from.releasesWithin(constraint.target, joined);
            }
        }
    }

    private void putConstraint(Constraint constraint) {
        tokens.scan(registry.text, constraint.rangeFrom, constraint.rangeTo);
        rangeReader.take(registry.text, tokens, joined);
        page.putLink(registry, constraint);
        page.putRange(joined);
    }

    /**
     * A version, read into a row of longs, so that two versions are ordered as their rows are, long
     * by long: the three numbers, then a key for each identifier behind '-', 0 where there is none.
     * Without '-' there is PLAIN, above all keys. A row has room for one identifier more than a text
     * may have, as the next version has one more.
     */
    private static final class Version {
        static final int WRONG = 0;
        static final int SHORT = 1;
        static final int WHOLE = 2;

        static final int NUMBERS = 3;
        static final int WIDTH = NUMBERS + 5;
        static final long PLAIN = 0x7FFFFFFFFFFFFFFFL;
        static final long ENDLESS = 0x7FFFFFFFFFFFFFFFL;
        /** Of the identifier 0: keys of numbers are 1 more, as 0 says that there is none. */
        static final long ZERO_KEY = 1L;

        private static final int NUMBER_DIGITS = 9;
        private static final int IDENTIFIER_SIGNS = 8;
        private static final int IDENTIFIERS_IN_A_ROW = 4;

        final long[] row;
        private int told;
        private byte[] text;
        private int at;
        private int end;

        Version() {
            row = new long[WIDTH];
            told = 0;
            text = null;
            at = 0;
            end = 0;
        }

        /** How many of the three numbers were told. */
        int told() {
            return told;
        }

        /** Whether all from start on, up to stop, is a version, one short of numbers, or neither. */
        int take(byte[] from, int start, int stop) {
            text = from;
            at = start;
            end = stop;
            told = 0;
            Arrays.fill(row, 0L);
            setIdentifier(row, PLAIN);
            if (!takeNumbers()) {
                return WRONG;
            }
            if (told < NUMBERS) {
                return endsAfterFilling() ? SHORT : WRONG;
            }
            if (signAt(at) == '-' && !takeIdentifiers(true)) {
                return WRONG;
            }
            if (signAt(at) == '+' && !takeIdentifiers(false)) {
                return WRONG;
            }
            return at == end ? WHOLE : WRONG;
        }

        private boolean takeNumbers() {
            for (int k = 0; k < NUMBERS; k++) {
                if (k > 0 && (signAt(at) != '.' || !isDigit(signAt(at + 1)))) {
                    return true;
                }
                at += k > 0 ? 1 : 0;
                int start = at;
                long value = 0L;
                while (at - start <= NUMBER_DIGITS && isDigit(signAt(at))) {
                    value = value * 10 + (signAt(at) - '0');
                    at++;
                }
                int digits = at - start;
                if (digits < 1 || digits > NUMBER_DIGITS || digits > 1 && signAt(start) == '0') {
                    return false;
                }
                row[k] = value;
                told++;
            }
            return true;
        }

        private boolean endsAfterFilling() {
            for (int k = told; k < NUMBERS && signAt(at) == '.' && signAt(at + 1) == 'x'; k++) {
                at += 2;
            }
            return at == end;
        }

        /** The sign at hand, - or +, and the identifiers behind it; those behind + don't count. */
        private boolean takeIdentifiers(boolean counts) {
            for (int k = 0; k < IDENTIFIERS_IN_A_ROW; k++) {
                at++;
                long key = takeKey(counts);
                if (key == 0L) {
                    return false;
                }
                if (counts) {
                    row[NUMBERS + k] = key;
                }
                if (signAt(at) != '.') {
                    return true;
                }
            }
            return false;
        }

        /**
         * The identifier at hand as a number that is ordered as it is: digits alone by value, others
         * by their bytes from the highest one down, which puts them above every value; 0 if it's wrong.
         */
        private long takeKey(boolean counts) {
            int start = at;
            long bytes = 0L;
            long value = 0L;
            boolean digitsAlone = true;
            while (at - start <= IDENTIFIER_SIGNS && isIdentifierSign(signAt(at))) {
                bytes = bytes << 8 | signAt(at);
                value = value * 10 + (signAt(at) - '0');
                digitsAlone = digitsAlone && isDigit(signAt(at));
                at++;
            }
            int signs = at - start;
            if (signs < 1 || signs > IDENTIFIER_SIGNS) {
                return 0L;
            }
            if (!digitsAlone) {
                return bytes << 8 * (IDENTIFIER_SIGNS - signs);
            }
            if (counts && signs > 1 && signAt(start) == '0') {
                return 0L;
            }
            return ZERO_KEY + value;
        }

        private int signAt(int i) {
            if (text == null || i < 0 || i >= end || i >= text.length) {
                return NONE;
            }
            return text[i] & 255;
        }

        static boolean isDigit(int sign) {
            return sign >= '0' && sign <= '9';
        }

        static boolean isIdentifierSign(int sign) {
            return sign >= 'a' && sign <= 'z' || sign >= 'A' && sign <= 'Z'
                    || sign >= '0' && sign <= '9' || sign == '-';
        }

        static int compare(long[] x, int i, long[] y, int j) {
            if (!fits(x, i) || !fits(y, j)) {
                return 0;
            }
            for (int k = 0; k < WIDTH; k++) {
                if (x[i + k] != y[j + k]) {
                    return x[i + k] < y[j + k] ? -1 : 1;
                }
            }
            return 0;
        }

        static void copy(long[] from, int i, long[] to, int j) {
            if (fits(from, i) && fits(to, j)) {
                System.arraycopy(from, i, to, j, WIDTH);
            }
        }

        static boolean fits(long[] rows, int i) {
            return i >= 0 && i <= rows.length - WIDTH;
        }

        /** 0.0.0-0, below which there is nothing. */
        static void setLeast(long[] row) {
            Arrays.fill(row, 0L);
            setIdentifier(row, ZERO_KEY);
        }

        /** Above every version: the end of a stretch that has none. */
        static void setEndless(long[] row) {
            Arrays.fill(row, 0L);
            if (row.length > 0) {
                row[0] = ENDLESS;
            }
        }

        static boolean isLeast(long[] rows, int i) {
            if (!fits(rows, i)) {
                return false;
            }
            for (int k = 0; k < WIDTH; k++) {
                if (rows[i + k] != (k == NUMBERS ? ZERO_KEY : 0L)) {
                    return false;
                }
            }
            return true;
        }

        static boolean isEndless(long[] rows, int i) {
            return fits(rows, i) && rows[i] == ENDLESS;
        }

        /** One identifier alone behind '-', or PLAIN for no '-'. */
        static void setIdentifier(long[] row, long key) {
            for (int k = NUMBERS; k < WIDTH && k < row.length; k++) {
                row[k] = k == NUMBERS ? key : 0L;
            }
        }

        /** Number index 1 more, 0s behind it, and -0: the least of all that have it so. */
        static void raise(long[] row, int index) {
            for (int k = 0; k < NUMBERS && k < row.length; k++) {
                if (k == index) {
                    row[k]++;
                } else if (k > index) {
                    row[k] = 0L;
                }
            }
            setIdentifier(row, ZERO_KEY);
        }

        /** Whether the row became the next version: not if that has too many identifiers for a row. */
        static boolean setNext(long[] row) {
            if (!fits(row, 0)) {
                return false;
            }
            if (row[NUMBERS] == PLAIN) {
                row[NUMBERS - 1]++;
                row[NUMBERS] = ZERO_KEY;
                return true;
            }
            for (int k = NUMBERS; k < WIDTH; k++) {
                if (row[k] == 0L) {
                    row[k] = ZERO_KEY;
                    return true;
                }
            }
            return false;
        }
    }

    /** A set of versions: bounds that rise, each stretch from an even one on below the one behind it. */
    private static final class Range {
        static final int AND = 0;
        static final int OR = 1;
        static final int WITHOUT = 2;

        private final long[] rows;
        private int bounds;

        Range(int stretches) {
            rows = new long[2 * Math.max(1, stretches) * Version.WIDTH];
            bounds = 0;
        }

        int stretches() {
            return bounds / 2;
        }

        void clear() {
            bounds = 0;
        }

        void setAll() {
            Version.setLeast(rows);
            rows[Version.WIDTH] = Version.ENDLESS;
            bounds = 2;
        }

        void setStretch(long[] low, long[] high) {
            bounds = 0;
            addBound(low, 0);
            addBound(high, 0);
        }

        void setTo(Range other) {
            bounds = 0;
            for (int b = 0; b < other.bounds; b++) {
                addBound(other.rows, b * Version.WIDTH);
            }
        }

        /**
         * Walks over the bounds of both from below: one is in a range where it has passed an odd
         * number of its bounds, so a bound of the result is where what both say together changes.
         */
        void setJoin(int how, Range a, Range b) {
            bounds = 0;
            int i = 0;
            int j = 0;
            int all = a.bounds + b.bounds;
            for (int step = 0; step < all && i + j < all; step++) {
                int side = sideOfLower(a, i, b, j);
                long[] from = side <= 0 ? a.rows : b.rows;
                int at = (side <= 0 ? i : j) * Version.WIDTH;
                i += side <= 0 ? 1 : 0;
                j += side >= 0 ? 1 : 0;
                boolean wasIn = bounds % 2 == 1;
                if (isKept(how, i % 2 == 1, j % 2 == 1) != wasIn) {
                    addBound(from, at);
                }
            }
        }

        boolean has(long[] row) {
            for (int b = 0; b < bounds; b += 2) {
                if (Version.compare(rows, b * Version.WIDTH, row, 0) <= 0
                        && Version.compare(row, 0, rows, (b + 1) * Version.WIDTH) < 0) {
                    return true;
                }
            }
            return false;
        }

        boolean isAll() {
            return bounds == 2 && Version.isLeast(rows, 0) && Version.isEndless(rows, Version.WIDTH);
        }

        void copyBound(int b, long[] row) {
            Version.copy(rows, b * Version.WIDTH, row, 0);
        }

        private static int sideOfLower(Range a, int i, Range b, int j) {
            if (i >= a.bounds) {
                return 1;
            }
            if (j >= b.bounds) {
                return -1;
            }
            return Version.compare(a.rows, i * Version.WIDTH, b.rows, j * Version.WIDTH);
        }

        private static boolean isKept(int how, boolean inA, boolean inB) {
            if (how == AND) {
                return inA && inB;
            }
            return how == OR ? inA || inB : inA && !inB;
        }

        private void addBound(long[] from, int at) {
            int to = bounds * Version.WIDTH;
            if (Version.fits(rows, to)) {
                Version.copy(from, at, rows, to);
                bounds++;
            }
        }
    }

    /** The tokens of a text; behind the last one, or the first that is none, there is the end. */
    private static final class Tokens {
        static final int END = 0;
        static final int WRONG = 1;
        static final int NAME = 2;
        static final int PACKAGE = 3;
        static final int WANT = 4;
        static final int NEEDS = 5;
        static final int CLASH = 6;
        static final int PART = 7;
        /** A part without operator that isn't short: it may be a release's, too. */
        static final int VERSION = 8;
        static final int OR = 9;
        static final int OPEN = 10;
        static final int CLOSE = 11;
        static final int SEMICOLON = 12;

        static final String WORD_PACKAGE = "package";
        static final String WORD_WANT = "want";
        static final String WORD_NEEDS = "needs";
        static final String WORD_CLASH = "clash";

        private static final int NAME_SIGNS = 12;

        private final byte[] kinds;
        private final int[] places;
        private final int[] ends;
        private int size;
        private byte[] text;
        private int textEnd;
        private final Version version;

        Tokens() {
            kinds = new byte[TAPE_BYTES];
            places = new int[TAPE_BYTES];
            ends = new int[TAPE_BYTES];
            size = 0;
            text = null;
            textEnd = 0;
            version = new Version();
        }

        int size() {
            return size;
        }

        int kindAt(int t) {
            return t >= 0 && t < size ? kinds[t] : END;
        }

        int placeAt(int t) {
            return t >= 0 && t < size ? places[t] : textEnd;
        }

        int endAt(int t) {
            return t >= 0 && t < size ? ends[t] : textEnd;
        }

        void scan(byte[] from, int start, int stop) {
            text = from;
            textEnd = Math.min(stop, from.length);
            size = 0;
            int at = Math.max(0, start);
            for (int step = at; step < textEnd && at < textEnd; step++) {
                int sign = signAt(at);
                if (isBlank(sign)) {
                    at++;
                } else if (isSmall(sign)) {
                    at = takeName(at);
                } else if (sign == '|' || sign == '{' || sign == '}' || sign == ';') {
                    at = takeMark(at, sign);
                } else {
                    at = takePart(at, sign);
                }
            }
        }

        static boolean isBlank(int sign) {
            return sign == 32 || sign == 10;
        }

        static boolean isPart(int kind) {
            return kind == PART || kind == VERSION;
        }

        static boolean isLink(int kind) {
            return kind == NEEDS || kind == CLASH;
        }

        /** How many signs the operator has with which a part begins. */
        static int operatorSigns(int first, int second) {
            if (first == '<' || first == '>') {
                return second == '=' ? 2 : 1;
            }
            return first == '=' || first == '^' || first == '~' ? 1 : 0;
        }

        private int takeName(int at) {
            int stop = at;
            while (stop < textEnd && isNameSign(signAt(stop))) {
                stop++;
            }
            if (stop - at > NAME_SIGNS) {
                return addWrong(at);
            }
            return add(kindOfName(at, stop), at, stop);
        }

        private int takeMark(int at, int sign) {
            if (sign == '|') {
                return signAt(at + 1) == '|' ? add(OR, at, at + 2) : addWrong(at);
            }
            if (sign == ';') {
                return add(SEMICOLON, at, at + 1);
            }
            return add(sign == '{' ? OPEN : CLOSE, at, at + 1);
        }

        private int takePart(int at, int sign) {
            if (sign == '*') {
                return add(PART, at, at + 1);
            }
            int start = at + operatorSigns(sign, signAt(at + 1));
            int stop = start;
            while (stop < textEnd && isPartSign(signAt(stop))) {
                stop++;
            }
            int form = version.take(text, start, stop);
            if (form == Version.WRONG) {
                return addWrong(at);
            }
            return add(form == Version.WHOLE && start == at ? VERSION : PART, at, stop);
        }

        private int kindOfName(int at, int stop) {
            if (isWord(WORD_PACKAGE, at, stop)) {
                return PACKAGE;
            }
            if (isWord(WORD_WANT, at, stop)) {
                return WANT;
            }
            if (isWord(WORD_NEEDS, at, stop)) {
                return NEEDS;
            }
            return isWord(WORD_CLASH, at, stop) ? CLASH : NAME;
        }

        private boolean isWord(String word, int at, int stop) {
            if (word.length() != stop - at) {
                return false;
            }
            for (int i = 0; i < word.length(); i++) {
                if (signAt(at + i) != word.charAt(i)) {
                    return false;
                }
            }
            return true;
        }

        private int add(int kind, int at, int stop) {
            if (size < kinds.length) {
                kinds[size] = (byte) kind;
                places[size] = at;
                ends[size] = stop;
                size++;
            }
            return stop;
        }

        /** What stands behind it is never looked at, as no fault there can be the lowest. */
        private int addWrong(int at) {
            add(WRONG, at, textEnd);
            return textEnd;
        }

        private int signAt(int i) {
            if (text == null || i < 0 || i >= textEnd || i >= text.length) {
                return NONE;
            }
            return text[i] & 255;
        }

        private static boolean isSmall(int sign) {
            return sign >= 'a' && sign <= 'z';
        }

        private static boolean isNameSign(int sign) {
            return isSmall(sign) || Version.isDigit(sign) || sign == '_';
        }

        private static boolean isPartSign(int sign) {
            return Version.isIdentifierSign(sign) || sign == '.' || sign == '+';
        }
    }

    /** Checks the tokens of a range, and makes the range that they tell. */
    private static final class RangeReader {
        private static final int ALLS = 16;
        private static final int PARTS = 6;

        private final Version version;
        private final long[] partLow;
        private final long[] partHigh;
        private final long[] low;
        private final long[] high;
        private final Range one;
        private final Range both;
        private int stop;

        RangeReader() {
            version = new Version();
            partLow = new long[Version.WIDTH];
            partHigh = new long[Version.WIDTH];
            low = new long[Version.WIDTH];
            high = new long[Version.WIDTH];
            one = new Range(1);
            both = new Range(JOINED_STRETCHES);
            stop = 0;
        }

        /** The token at which the last check ended: the one behind the range, or the faulty one. */
        int stop() {
            return stop;
        }

        /** 0, or the fault of the range that begins at token start. */
        int check(Tokens tokens, int start) {
            int alls = 1;
            int parts = 0;
            for (stop = start; stop < tokens.size(); stop++) {
                int kind = tokens.kindAt(stop);
                if (Tokens.isPart(kind)) {
                    parts++;
                    if (parts > PARTS || alls > ALLS) {
                        return TOO_MUCH;
                    }
                } else if (kind == Tokens.OR && parts > 0) {
                    alls++;
                    parts = 0;
                } else {
                    break;
                }
            }
            return parts == 0 ? FORM : 0;
        }

        /** Into becomes the range that all the tokens tell, which have been checked before. */
        void take(byte[] text, Tokens tokens, Range into) {
            into.clear();
            openAll();
            for (int t = 0; t < tokens.size(); t++) {
                if (tokens.kindAt(t) == Tokens.OR) {
                    closeAll(into);
                    openAll();
                } else {
                    takePart(text, tokens.placeAt(t), tokens.endAt(t));
                    narrowAll();
                }
            }
            closeAll(into);
        }

        private void openAll() {
            Version.setLeast(low);
            Version.setEndless(high);
        }

        private void narrowAll() {
            if (Version.compare(partLow, 0, low, 0) > 0) {
                Version.copy(partLow, 0, low, 0);
            }
            if (Version.compare(partHigh, 0, high, 0) < 0) {
                Version.copy(partHigh, 0, high, 0);
            }
        }

        private void closeAll(Range into) {
            if (Version.compare(low, 0, high, 0) < 0) {
                one.setStretch(low, high);
                both.setJoin(Range.OR, into, one);
                into.setTo(both);
            }
        }

        /** What is in a part is always one stretch. */
        private void takePart(byte[] text, int place, int end) {
            Version.setLeast(partLow);
            Version.setEndless(partHigh);
            if (place < 0 || end > text.length || place >= end || text[place] == '*') {
                return;
            }
            int first = text[place];
            int second = place + 1 < end ? text[place + 1] : NONE;
            int signs = Tokens.operatorSigns(first, second);
            boolean whole = version.take(text, place + signs, end) == Version.WHOLE;
            if (first == '>') {
                startAbove(whole, signs == 2);
            } else if (first == '<') {
                endBelow(whole, signs == 2);
            } else {
                Version.copy(version.row, 0, partLow, 0);
                Version.copy(version.row, 0, partHigh, 0);
                raiseEnd(first, whole);
            }
        }

        private void startAbove(boolean whole, boolean orSame) {
            Version.copy(version.row, 0, partLow, 0);
            if (orSame) {
                return;
            }
            raisePast(partLow, whole);
            if (!whole) {
                Version.setIdentifier(partLow, Version.PLAIN);
            }
        }

        private void endBelow(boolean whole, boolean orSame) {
            Version.copy(version.row, 0, partHigh, 0);
            if (orSame) {
                raisePast(partHigh, whole);
            } else if (!whole) {
                Version.setIdentifier(partHigh, Version.ZERO_KEY);
            }
        }

        private void raiseEnd(int operator, boolean whole) {
            if (operator == '^') {
                Version.raise(partHigh, firstThatIsNotZero());
            } else if (operator == '~') {
                Version.raise(partHigh, version.told() == 1 ? 0 : 1);
            } else {
                raisePast(partHigh, whole);
            }
        }

        /** The least that is above the version, or above all that the short one stands for. */
        private void raisePast(long[] row, boolean whole) {
            if (whole) {
                Version.setNext(row);
            } else {
                Version.raise(row, version.told() - 1);
            }
        }

        private int firstThatIsNotZero() {
            for (int k = 0; k < version.told() && k < Version.NUMBERS; k++) {
                if (version.row[k] != 0L) {
                    return k;
                }
            }
            return version.told() - 1;
        }
    }

    /** A package: where its name stands, and which releases are its own. */
    private static final class Pack {
        final int[] falling;
        int nameFrom;
        int nameTo;
        int firstRelease;
        int releases;

        Pack() {
            falling = new int[Registry.RELEASES_OF_ONE];
            nameFrom = 0;
            nameTo = 0;
            firstRelease = 0;
            releases = 0;
        }

        /** The k-th from the greatest version down, counted within the package. */
        int fallingAt(int k) {
            return k >= 0 && k < releases && k < falling.length ? falling[k] : 0;
        }

        /** One more release, below k of those that there are. */
        void insertRelease(int k) {
            for (int i = Math.min(releases, falling.length - 1); i > k && i > 0; i--) {
                falling[i] = falling[i - 1];
            }
            if (k >= 0 && k < falling.length) {
                falling[k] = releases;
            }
            releases++;
        }
    }

    /** A release: its package, where its version stands, and its links, which stand in one row. */
    private static final class Release {
        final long[] row;
        int home;
        int versionFrom;
        int versionTo;
        int firstLink;
        int links;

        Release() {
            row = new long[Version.WIDTH];
            home = 0;
            versionFrom = 0;
            versionTo = 0;
            firstLink = 0;
            links = 0;
        }
    }

    /** A link or a want. */
    private static final class Constraint {
        int kind;
        int holder;
        int nameFrom;
        int nameTo;
        int target;
        int rangeFrom;
        int rangeTo;
        /** A bit for each release of the target that is in the range. */
        int within;

        Constraint() {
            kind = Tokens.WANT;
            holder = NONE;
            nameFrom = 0;
            nameTo = 0;
            target = NONE;
            rangeFrom = 0;
            rangeTo = 0;
            within = 0;
        }
    }

    /** A registry with the text that it was read from. */
    private static final class Registry {
        static final int PACKS = 10;
        static final int RELEASES_OF_ONE = 6;
        static final int LINKS_OF_ONE = 4;
        static final int WANTS = 10;
        static final int RELEASES = PACKS * RELEASES_OF_ONE;
        static final int CONSTRAINTS = RELEASES * LINKS_OF_ONE + WANTS;

        private static final int TWICE = 3;
        private static final int UNKNOWN = 4;

        final byte[] text;
        private final Pack[] packs;
        private final Release[] releases;
        private final Constraint[] constraints;
        private int packCount;
        private int releaseCount;
        private int constraintCount;
        private int linkCount;
        private final Version version;
        private int at;
        private int fault;

        Registry() {
            text = new byte[TAPE_BYTES];
            packs = new Pack[PACKS];
            for (int p = 0; p < PACKS; p++) {
                packs[p] = new Pack();
            }
            releases = new Release[RELEASES];
            for (int r = 0; r < RELEASES; r++) {
                releases[r] = new Release();
            }
            constraints = new Constraint[CONSTRAINTS];
            for (int c = 0; c < CONSTRAINTS; c++) {
                constraints[c] = new Constraint();
            }
            version = new Version();
            clear();
        }

        private void clear() {
            packCount = 0;
            releaseCount = 0;
            constraintCount = 0;
            linkCount = 0;
            at = 0;
            fault = 0;
        }

        int packs() {
            return packCount;
        }

        int releases() {
            return releaseCount;
        }

        int constraints() {
            return constraintCount;
        }

        /** The links stand ahead of the wants, so this is the number of the first want, too. */
        int links() {
            return linkCount;
        }

        Pack packAt(int p) {
            return p >= 0 && p < packCount ? packs[p] : null;
        }

        Release releaseAt(int r) {
            return r >= 0 && r < releaseCount ? releases[r] : null;
        }

        Constraint constraintAt(int c) {
            return c >= 0 && c < constraintCount ? constraints[c] : null;
        }

        /** A bit for each release of package p that is in the range. */
        int releasesWithin(int p, Range range) {
            Pack pack = packAt(p);
            int bits = 0;
            for (int k = 0; pack != null && k < pack.releases; k++) {
                Release release = releaseAt(pack.firstRelease + k);
                if (release != null && range.has(release.row)) {
                    bits |= 1 << k;
                }
            }
            return bits;
        }

        void setText(byte[] from, int length) {
            if (length >= 0 && length <= text.length && length <= from.length) {
                System.arraycopy(from, 0, text, 0, length);
            }
        }

        /** Becomes what the tokens of its text tell: 0, or the fault and 8 times its place. */
        int take(Tokens tokens, RangeReader ranges) {
            clear();
            if (takePackages(tokens, ranges) && takeWants(tokens, ranges) && expect(tokens, Tokens.END)) {
                return findTargets();
            }
            return fault + PLACE_FACTOR * tokens.placeAt(at);
        }

        private boolean takePackages(Tokens tokens, RangeReader ranges) {
            for (int k = 0; k <= PACKS && tokens.kindAt(at) == Tokens.PACKAGE; k++) {
                if (k == PACKS) {
                    return fail(TOO_MUCH);
                }
                at++;
                if (!takeName(tokens) || !expect(tokens, Tokens.OPEN)
                        || !takeReleases(tokens, ranges) || !expect(tokens, Tokens.CLOSE)) {
                    return false;
                }
            }
            return true;
        }

        private boolean takeName(Tokens tokens) {
            if (tokens.kindAt(at) != Tokens.NAME) {
                return fail(FORM);
            }
            if (packNamed(tokens.placeAt(at), tokens.endAt(at)) != NONE) {
                return fail(TWICE);
            }
            addPack(tokens.placeAt(at), tokens.endAt(at));
            at++;
            return true;
        }

        private boolean takeReleases(Tokens tokens, RangeReader ranges) {
            for (int k = 0; k <= RELEASES_OF_ONE && tokens.kindAt(at) == Tokens.VERSION; k++) {
                if (k == RELEASES_OF_ONE) {
                    return fail(TOO_MUCH);
                }
                version.take(text, tokens.placeAt(at), tokens.endAt(at));
                if (!addRelease(tokens.placeAt(at), tokens.endAt(at))) {
                    return fail(TWICE);
                }
                at++;
                if (!takeLinks(tokens, ranges) || !expect(tokens, Tokens.SEMICOLON)) {
                    return false;
                }
            }
            return true;
        }

        private boolean takeLinks(Tokens tokens, RangeReader ranges) {
            for (int k = 0; k <= LINKS_OF_ONE && Tokens.isLink(tokens.kindAt(at)); k++) {
                if (k == LINKS_OF_ONE) {
                    return fail(TOO_MUCH);
                }
                if (!takeConstraint(tokens, ranges)) {
                    return false;
                }
            }
            return true;
        }

        private boolean takeWants(Tokens tokens, RangeReader ranges) {
            for (int k = 0; k <= WANTS && tokens.kindAt(at) == Tokens.WANT; k++) {
                if (k == WANTS) {
                    return fail(TOO_MUCH);
                }
                if (!takeConstraint(tokens, ranges) || !expect(tokens, Tokens.SEMICOLON)) {
                    return false;
                }
            }
            return true;
        }

        /** The word at hand, the name and the range behind it. */
        private boolean takeConstraint(Tokens tokens, RangeReader ranges) {
            int word = at;
            at++;
            if (!expect(tokens, Tokens.NAME)) {
                return false;
            }
            int rangeFault = ranges.check(tokens, at);
            at = ranges.stop();
            if (rangeFault != 0) {
                return fail(rangeFault);
            }
            addConstraint(tokens, word, at);
            return true;
        }

        private int findTargets() {
            for (int c = 0; c < constraintCount; c++) {
                Constraint constraint = constraints[c];
                constraint.target = packNamed(constraint.nameFrom, constraint.nameTo);
                if (constraint.target == NONE) {
                    return UNKNOWN + PLACE_FACTOR * constraint.nameFrom;
                }
            }
            return 0;
        }

        private boolean expect(Tokens tokens, int kind) {
            if (tokens.kindAt(at) != kind) {
                return fail(FORM);
            }
            at++;
            return true;
        }

        /** The token at hand is the faulty one. */
        private boolean fail(int kind) {
            fault = kind;
            return false;
        }

        private void addPack(int from, int to) {
            if (packCount < PACKS) {
                Pack pack = packs[packCount];
                pack.nameFrom = from;
                pack.nameTo = to;
                pack.firstRelease = releaseCount;
                pack.releases = 0;
                packCount++;
            }
        }

        /** Whether the last package got the version at hand: not if it has the same already. */
        private boolean addRelease(int from, int to) {
            Pack pack = packAt(packCount - 1);
            if (pack == null || releaseCount >= RELEASES) {
                return false;
            }
            int greater = 0;
            for (int r = pack.firstRelease; r < releaseCount; r++) {
                int side = Version.compare(releases[r].row, 0, version.row, 0);
                if (side == 0) {
                    return false;
                }
                greater += side > 0 ? 1 : 0;
            }
            pack.insertRelease(greater);
            Release release = releases[releaseCount];
            Version.copy(version.row, 0, release.row, 0);
            release.home = packCount - 1;
            release.versionFrom = from;
            release.versionTo = to;
            release.firstLink = constraintCount;
            release.links = 0;
            releaseCount++;
            return true;
        }

        /** From the tokens of its word, and of its name and range, which are all up to token stop. */
        private void addConstraint(Tokens tokens, int word, int stop) {
            if (constraintCount >= CONSTRAINTS) {
                return;
            }
            Constraint constraint = constraints[constraintCount];
            constraint.kind = tokens.kindAt(word);
            constraint.nameFrom = tokens.placeAt(word + 1);
            constraint.nameTo = tokens.endAt(word + 1);
            constraint.rangeFrom = tokens.placeAt(word + 2);
            constraint.rangeTo = tokens.endAt(stop - 1);
            constraint.target = NONE;
            constraint.within = 0;
            constraint.holder = NONE;
            constraintCount++;
            if (Tokens.isLink(constraint.kind) && releaseCount > 0) {
                constraint.holder = releaseCount - 1;
                releases[releaseCount - 1].links++;
                linkCount++;
            }
        }

        private int packNamed(int from, int to) {
            for (int p = 0; p < packCount; p++) {
                if (isSameText(packs[p].nameFrom, packs[p].nameTo, from, to)) {
                    return p;
                }
            }
            return NONE;
        }

        private boolean isSameText(int from, int to, int otherFrom, int otherTo) {
            if (to - from != otherTo - otherFrom || from < 0 || otherFrom < 0
                    || to > text.length || otherTo > text.length) {
                return false;
            }
            for (int i = 0; i < to - from; i++) {
                if (text[from + i] != text[otherFrom + i]) {
                    return false;
                }
            }
            return true;
        }
    }

    /**
     * Looks for choices. Each package has seven values, its releases and ABSENT, held as bits; each
     * constraint is about one package or two, so that a value laid down says of every other package
     * which of its values are still open.
     */
    private static final class Solver {
        private static final int PACKS = Registry.PACKS;
        private static final int ABSENT = Registry.RELEASES_OF_ONE;
        private static final int VALUES = ABSENT + 1;
        private static final int ANY = (1 << VALUES) - 1;
        private static final int POSSIBLE = -1;

        private Registry registry;
        private int packs;
        /** At (package, value, other package): the other's values that its own links leave. */
        private final int[] says;
        /** Likewise, but by the links of both. */
        private final int[] allowed;
        /** At (values laid down, package): the values that are open. */
        private final int[] open;
        /** Likewise: a bit for each package laid down that has closed values of it. */
        private final int[] closers;
        private final boolean[] active;
        private final int[] values;

        Solver(Registry first) {
            registry = first;
            packs = 0;
            says = new int[PACKS * VALUES * PACKS];
            allowed = new int[PACKS * VALUES * PACKS];
            open = new int[(PACKS + 1) * PACKS];
            closers = new int[(PACKS + 1) * PACKS];
            active = new boolean[Registry.CONSTRAINTS];
            values = new int[PACKS];
        }

        void load(Registry from) {
            registry = from;
            packs = Math.min(from.packs(), PACKS);
            Arrays.fill(says, ANY);
            Arrays.fill(allowed, ANY);
            for (int c = 0; c < active.length; c++) {
                active[c] = true;
            }
            for (int r = 0; r < from.releases(); r++) {
                Release release = from.releaseAt(r);
                for (int k = 0; release != null && k < release.links; k++) {
                    weaveLink(release.firstLink + k);
                }
            }
            for (int p = 0; p < packs; p++) {
                openPack(p);
            }
        }

        boolean isPossible() {
            return blameFrom(this, 0, 0) == POSSIBLE;
        }

        /** The best solution, of which it is known that there is one. */
        void settle(Finding finding, boolean locked) {
            for (int p = 0; p < packs; p++) {
                values[p] = bestValue(p, locked ? lockedValue(finding, p) : NONE);
            }
            finding.startSolution(packs);
            for (int p = 0; p < packs; p++) {
                Pack pack = registry.packAt(p);
                if (pack != null && values[p] != ABSENT) {
                    finding.pick(p, pack.firstRelease + values[p]);
                }
            }
        }

        /** The reason why there is no solution, of which it is known that there is none. */
        void accuse(Finding finding) {
            for (int c = registry.constraints() - 1; c >= 0; c--) {
                setActive(c, false);
                if (isPossible()) {
                    setActive(c, true);
                }
            }
            finding.startReason();
            for (int c = 0; c < registry.constraints() && c < active.length; c++) {
                if (active[c]) {
                    finding.accuse(c);
                }
            }
        }

        /** How many solutions there are, at most so many. */
        int tally(int most) {
            return isPossible() ? tallyFrom(this, 0, 0, most) : 0;
        }

        private int lockedValue(Finding finding, int p) {
            Pack pack = registry.packAt(p);
            if (pack == null || !finding.isSolved()) {
                return NONE;
            }
            int release = finding.releaseOf(p);
            return release == NONE ? ABSENT : release - pack.firstRelease;
        }

        /** With a want of it ABSENT is never open, so it may be tried first for every package. */
        private int bestValue(int p, int locked) {
            Pack pack = registry.packAt(p);
            if (pack == null) {
                return ABSENT;
            }
            if (locked != NONE && leadsOn(p, locked)) {
                return locked;
            }
            if (leadsOn(p, ABSENT)) {
                return ABSENT;
            }
            for (int k = 0; k < pack.releases; k++) {
                if (leadsOn(p, pack.fallingAt(k))) {
                    return pack.fallingAt(k);
                }
            }
            return ABSENT;
        }

        /** Whether there is a solution with this value and with those of the packages ahead. */
        private boolean leadsOn(int p, int value) {
            return isOpen(p, p, value) && lay(p, p, value) == 0
                    && blameFrom(this, p + 1, (1 << p + 1) - 1) == POSSIBLE;
        }

        /**
         * POSSIBLE if what is laid down is part of a solution; else a bit for each package of some
         * that are laid down so that there is none with them. Only packages that must be there are
         * laid down: when ABSENT is open for all the others, that is a solution. Where a package has
         * no part in the blame of one of its values, the others needn't be tried: else packages that
         * have nothing to do with it would be gone through for each other.
         */
        private static int blameFrom(Solver solver, int depth, int laid) {
            int p = depth < solver.packs ? solver.smallestPack(depth, laid, true) : NONE;
            if (p == NONE) {
                return POSSIBLE;
            }
            int blamed = solver.closers[depth * PACKS + p];
            for (int value = 0; value < ABSENT; value++) {
                if (solver.isOpen(depth, p, value)) {
                    int blame = solver.lay(depth, p, value);
                    if (blame == 0) {
                        blame = blameFrom(solver, depth + 1, laid | 1 << p);
                    }
                    if (blame == POSSIBLE || (blame >> p & 1) == 0) {
                        return blame;
                    }
                    blamed |= blame & ~(1 << p);
                }
            }
            return blamed;
        }

        /** Packages that must be there come first: the sooner it's seen that there is no solution. */
        private static int tallyFrom(Solver solver, int depth, int laid, int most) {
            int p = NONE;
            if (depth < solver.packs) {
                p = solver.smallestPack(depth, laid, true);
                p = p == NONE ? solver.smallestPack(depth, laid, false) : p;
            }
            if (p == NONE) {
                return 1;
            }
            if (depth == solver.packs - 1) {
                return Math.min(most, Integer.bitCount(solver.open[depth * PACKS + p]));
            }
            int sum = 0;
            for (int value = 0; value < VALUES && sum < most; value++) {
                if (solver.isOpen(depth, p, value) && solver.lay(depth, p, value) == 0) {
                    sum += tallyFrom(solver, depth + 1, laid | 1 << p, most - sum);
                }
            }
            return sum;
        }

        /** The package with the fewest open values that isn't laid down; NONE if there is none. */
        private int smallestPack(int depth, int laid, boolean onlyNeeded) {
            int best = NONE;
            int fewest = VALUES + 1;
            for (int p = 0; p < packs && depth >= 0 && depth < PACKS; p++) {
                int bits = open[depth * PACKS + p];
                boolean counts = (laid >> p & 1) == 0 && (!onlyNeeded || (bits >> ABSENT & 1) == 0);
                if (counts && Integer.bitCount(bits) < fewest) {
                    best = p;
                    fewest = Integer.bitCount(bits);
                }
            }
            return best;
        }

        private boolean isOpen(int depth, int p, int value) {
            return depth >= 0 && depth < PACKS && p >= 0 && p < PACKS
                    && (open[depth * PACKS + p] >> value & 1) == 1;
        }

        /**
         * Fills the next row of open values: 0, or, if a package has none left, a bit for each package
         * that has closed some of them.
         */
        private int lay(int depth, int p, int value) {
            if (depth < 0 || depth >= PACKS || p < 0 || p >= PACKS || value < 0 || value >= VALUES) {
                return 0;
            }
            int here = depth * PACKS;
            int there = here + PACKS;
            int goes = (p * VALUES + value) * PACKS;
            for (int q = 0; q < packs; q++) {
                int left = open[here + q] & (q == p ? 1 << value : allowed[goes + q]);
                open[there + q] = left;
                closers[there + q] = closers[here + q] | (left == open[here + q] ? 0 : 1 << p);
                if (left == 0) {
                    return closers[there + q] | 1 << p;
                }
            }
            return 0;
        }

        private void setActive(int c, boolean is) {
            Constraint constraint = registry.constraintAt(c);
            if (constraint == null || c < 0 || c >= active.length) {
                return;
            }
            active[c] = is;
            if (constraint.kind != Tokens.WANT) {
                weaveLink(c);
            }
            openPack(constraint.target);
        }

        /** What the holder of link c says of the link's target, by all its active links to it. */
        private void weaveLink(int c) {
            Constraint link = registry.constraintAt(c);
            Release holder = link == null ? null : registry.releaseAt(link.holder);
            Pack home = holder == null ? null : registry.packAt(holder.home);
            if (home == null || link.target < 0 || link.target >= PACKS) {
                return;
            }
            int value = link.holder - home.firstRelease;
            if (holder.home < 0 || holder.home >= PACKS || value < 0 || value >= ABSENT) {
                return;
            }
            int goes = ANY;
            for (int k = 0; k < holder.links; k++) {
                Constraint other = registry.constraintAt(holder.firstLink + k);
                if (other != null && other.target == link.target && isActive(holder.firstLink + k)) {
                    goes &= other.kind == Tokens.NEEDS ? other.within : ANY & ~other.within;
                }
            }
            says[(holder.home * VALUES + value) * PACKS + link.target] = goes;
            for (int other = 0; other < VALUES; other++) {
                matchValues(holder.home, value, link.target, other);
            }
        }

        /** Two values go together if each of them says so of the other. */
        private void matchValues(int p, int value, int q, int other) {
            int there = (p * VALUES + value) * PACKS + q;
            int back = (q * VALUES + other) * PACKS + p;
            boolean go = (says[there] >> other & says[back] >> value & 1) == 1;
            allowed[there] = go ? allowed[there] | 1 << other : allowed[there] & ~(1 << other);
            allowed[back] = go ? allowed[back] | 1 << value : allowed[back] & ~(1 << value);
        }

        /** The values open before any is laid down: those that the wants and its own links leave. */
        private void openPack(int p) {
            Pack pack = registry.packAt(p);
            if (pack == null || p < 0 || p >= PACKS) {
                return;
            }
            int bits = (1 << pack.releases) - 1 | 1 << ABSENT;
            for (int c = registry.links(); c < registry.constraints(); c++) {
                Constraint want = registry.constraintAt(c);
                if (want != null && want.target == p && isActive(c)) {
                    bits &= want.within;
                }
            }
            for (int value = 0; value < pack.releases && value < ABSENT; value++) {
                if ((says[(p * VALUES + value) * PACKS + p] >> value & 1) == 0) {
                    bits &= ~(1 << value);
                }
            }
            open[p] = bits;
        }

        private boolean isActive(int c) {
            return c >= 0 && c < active.length && active[c];
        }
    }

    /** What the latest resolve() found: a solution, or the reason why there is none. */
    private static final class Finding {
        private static final int NOTHING = 0;
        private static final int SOLUTION = 1;
        private static final int REASON = 2;

        private int kind;
        private int packs;
        private final int[] releases;
        private final int[] accused;
        private int accusedCount;
        private final int[] steps;

        Finding() {
            kind = NOTHING;
            packs = 0;
            releases = new int[Registry.PACKS];
            accused = new int[Registry.CONSTRAINTS];
            accusedCount = 0;
            steps = new int[Registry.PACKS];
        }

        void forget() {
            kind = NOTHING;
            packs = 0;
            accusedCount = 0;
        }

        void startSolution(int ofPacks) {
            kind = SOLUTION;
            packs = Math.min(ofPacks, releases.length);
            accusedCount = 0;
            Arrays.fill(releases, NONE);
        }

        void pick(int p, int release) {
            if (p >= 0 && p < packs) {
                releases[p] = release;
            }
        }

        void startReason() {
            kind = REASON;
            packs = 0;
            accusedCount = 0;
        }

        void accuse(int c) {
            if (accusedCount < accused.length) {
                accused[accusedCount] = c;
                accusedCount++;
            }
        }

        boolean isSolved() {
            return kind == SOLUTION;
        }

        int releaseOf(int p) {
            return p >= 0 && p < packs ? releases[p] : NONE;
        }

        int accusedAt(int i) {
            return i >= 0 && i < accusedCount ? accused[i] : NONE;
        }

        int accused() {
            return accusedCount;
        }

        int picked() {
            int sum = 0;
            for (int p = 0; p < packs; p++) {
                sum += releases[p] == NONE ? 0 : 1;
            }
            return sum;
        }

        /** The constraint by which package p is reached first, from the wants, breadth by breadth. */
        int reachedBy(Registry registry, int p) {
            Arrays.fill(steps, NONE);
            for (int c = registry.links(); c < registry.constraints(); c++) {
                if (reaches(registry.constraintAt(c), 0) && targetIs(registry.constraintAt(c), p)) {
                    return c;
                }
            }
            for (int step = 1; step < packs; step++) {
                for (int c = 0; c < registry.links(); c++) {
                    Constraint link = registry.constraintAt(c);
                    if (isTaken(registry, link, step - 1) && reaches(link, step) && targetIs(link, p)) {
                        return c;
                    }
                }
            }
            return NONE;
        }

        /** Whether it is a needs link of a chosen release that was reached by so many steps. */
        private boolean isTaken(Registry registry, Constraint link, int step) {
            if (link == null || link.kind != Tokens.NEEDS) {
                return false;
            }
            Release holder = registry.releaseAt(link.holder);
            return holder != null && releaseOf(holder.home) == link.holder
                    && holder.home < steps.length && steps[holder.home] == step;
        }

        /** Whether the target is reached by it for the first time. */
        private boolean reaches(Constraint constraint, int step) {
            if (constraint == null || constraint.target < 0 || constraint.target >= steps.length
                    || steps[constraint.target] != NONE) {
                return false;
            }
            steps[constraint.target] = step;
            return true;
        }

        private static boolean targetIs(Constraint constraint, int p) {
            return constraint != null && constraint.target == p;
        }
    }

    /** What was written. */
    private static final class Page {
        /** Sixteen stretches with the longest versions and a link ahead have some 2,400. */
        private static final int PAGE_BYTES = 2500;
        private static final int NUMBER_DIGITS = 10;

        private final byte[] bytes;
        private int length;
        private final byte[] digits;
        private final long[] low;
        private final long[] high;
        private final long[] next;

        Page() {
            bytes = new byte[PAGE_BYTES];
            length = 0;
            digits = new byte[NUMBER_DIGITS];
            low = new long[Version.WIDTH];
            high = new long[Version.WIDTH];
            next = new long[Version.WIDTH];
        }

        void clear() {
            length = 0;
        }

        int length() {
            return length;
        }

        int byteAt(int i) {
            return i >= 0 && i < length && i < bytes.length ? bytes[i] & 255 : NONE;
        }

        void putRange(Range range) {
            if (range.isAll()) {
                putText("*");
            } else if (range.stretches() == 0) {
                putText("none");
            } else {
                for (int s = 0; s < range.stretches(); s++) {
                    putText(s == 0 ? "" : " || ");
                    range.copyBound(2 * s, low);
                    range.copyBound(2 * s + 1, high);
                    putStretch();
                }
            }
        }

        void putRelease(Registry registry, int r) {
            Release release = registry.releaseAt(r);
            Pack home = release == null ? null : registry.packAt(release.home);
            if (home != null) {
                putBytes(registry.text, home.nameFrom, home.nameTo);
                putSign(' ');
                putBytes(registry.text, release.versionFrom, release.versionTo);
            }
        }

        /** All of a constraint but its range. */
        void putLink(Registry registry, Constraint constraint) {
            if (constraint.kind == Tokens.WANT) {
                putText(Tokens.WORD_WANT);
            } else {
                putRelease(registry, constraint.holder);
                putSign(' ');
                putText(constraint.kind == Tokens.NEEDS ? Tokens.WORD_NEEDS : Tokens.WORD_CLASH);
            }
            putSign(' ');
            putBytes(registry.text, constraint.nameFrom, constraint.nameTo);
            putSign(' ');
        }

        private void putStretch() {
            Version.copy(low, 0, next, 0);
            if (Version.setNext(next) && Version.compare(next, 0, high, 0) == 0) {
                putSign('=');
                putVersion(low);
                return;
            }
            boolean begins = !Version.isLeast(low, 0);
            boolean ends = !Version.isEndless(high, 0);
            if (begins) {
                putText(">=");
                putVersion(low);
            }
            putText(begins && ends ? " " : "");
            if (ends) {
                putSign('<');
                putVersion(high);
            }
        }

        private void putVersion(long[] row) {
            if (!Version.fits(row, 0)) {
                return;
            }
            for (int k = 0; k < Version.NUMBERS; k++) {
                putText(k == 0 ? "" : ".");
                putNumber(row[k]);
            }
            if (row[Version.NUMBERS] == Version.PLAIN) {
                return;
            }
            for (int k = Version.NUMBERS; k < Version.WIDTH && row[k] != 0L; k++) {
                putSign(k == Version.NUMBERS ? '-' : '.');
                putKey(row[k]);
            }
        }

        /** Keys of numbers are low ones: others have a sign in their highest byte. */
        private void putKey(long key) {
            if (key >> 56 == 0L) {
                putNumber(key - Version.ZERO_KEY);
                return;
            }
            for (int shift = 56; shift >= 0 && (key >> shift & 255) != 0L; shift -= 8) {
                putSign((int) (key >> shift & 255));
            }
        }

        private void putNumber(long number) {
            long rest = Math.max(0L, number);
            int size = 0;
            do {
                digits[size] = (byte) ('0' + rest % 10);
                rest /= 10;
                size++;
            } while (rest > 0L && size < NUMBER_DIGITS);
            for (int k = size - 1; k >= 0; k--) {
                putSign(digits[k]);
            }
        }

        private void putText(String text) {
            for (int i = 0; i < text.length(); i++) {
                putSign(text.charAt(i));
            }
        }

        private void putBytes(byte[] text, int from, int to) {
            for (int i = Math.max(0, from); i < to && i < text.length; i++) {
                putSign(text[i]);
            }
        }

        private void putSign(int sign) {
            if (length < bytes.length) {
                bytes[length] = (byte) sign;
                length++;
            }
        }
    }
}
