import java.util.Arrays;

/**
 * Square codes of 21 by 21 modules: text is written as bits and bytes with check bytes, laid out
 * and masked by the mask that looks best; modules can be flipped; and what is there is read again,
 * wrong bytes being put right as far as they can.
 *
 * <p>All arrays are made in constructors and used again by every call, so that no call but one that
 * throws makes an object.
 */
public final class SquareCodes {
    public static final int NONE = -1;

    private static final int SIDE = 21;
    private static final int MASKS = 8;
    private static final int ANY_MASK = -1;
    private static final int LEVELS = 4;
    private static final int ALL_BYTES = 26;
    private static final int DATA_MODULES = 8 * ALL_BYTES;
    private static final int MOST_CHECKS = 17;
    private static final int MOST_TYPED = 45;
    // 152 bits hold 41 digits at most, and fewer characters of any other kind.
    private static final int MOST_READ = 64;
    private static final int KIND_BITS = 4;

    private static final int TOLD_LEVEL = 0;
    private static final int TOLD_MASK = 1;
    private static final int TOLD_PUT_RIGHT = 2;
    private static final int TOLD_FIRST_COPY = 3;

    private static final int[] DATA_BYTES = {19, 16, 13, 9};

    private final char[] typed;
    private int typedCount;
    private final Grid grid;
    private final Layout layout;
    private final Checks checks;
    private final TextWriter writer;
    private final TextReader reader;
    private final Reading latest;
    private final int[] bytes;

    public SquareCodes() {
        typed = new char[MOST_TYPED];
        grid = new Grid();
        layout = new Layout();
        checks = new Checks();
        writer = new TextWriter();
        reader = new TextReader();
        latest = new Reading();
        bytes = new int[ALL_BYTES];
    }

    public boolean type(char c) {
        if (c < 32 || c > 126 || typedCount >= MOST_TYPED) {
            return false;
        }
        typed[typedCount] = c;
        typedCount++;
        return true;
    }

    public int write(int level, int mask) throws IllegalArgumentException, IllegalStateException {
        if (level < 0 || level >= LEVELS || mask < ANY_MASK || mask >= MASKS) {
            throw new IllegalArgumentException("no such level or mask");
        }
        boolean fits = writer.fillData(typed, typedCount, bytes, DATA_BYTES[level]);
        typedCount = 0;
        if (!fits) {
            throw new IllegalStateException("the text does not go into the data bytes");
        }
        checks.append(bytes, DATA_BYTES[level]);
        int chosen = mask == ANY_MASK ? bestMask(level) : mask;
        layout.putDown(grid, bytes, level, chosen);
        return chosen;
    }

    public int module(int r, int c) {
        return isInside(r, c) ? grid.at(r, c) : NONE;
    }

    public int flip(int r, int c) throws IllegalArgumentException {
        if (!isInside(r, c)) {
            throw new IllegalArgumentException("outside of the grid");
        }
        grid.turnOver(r, c);
        return grid.at(r, c);
    }

    public int row(int r) {
        return isLine(r) ? grid.rowBits(r) : NONE;
    }

    public int ugliness() {
        return grid.penalty();
    }

    public int read()
            throws IllegalStateException, IllegalArgumentException, UnsupportedOperationException {
        int first = Form.nearest(layout.firstCopy(grid));
        int form = first != NONE ? first : Form.nearest(layout.secondCopy(grid));
        if (form == NONE) {
            throw new IllegalStateException("the grid has no form");
        }
        int level = Form.levelOf(form);
        int mask = Form.maskOf(form);
        layout.pickUp(grid, bytes, mask);
        int putRight = checks.repair(bytes, DATA_BYTES[level]);
        if (putRight == NONE) {
            throw new IllegalArgumentException("there are no right bytes near enough");
        }
        if (!reader.decode(bytes, DATA_BYTES[level])) {
            throw new UnsupportedOperationException("the data bytes tell no text");
        }
        latest.keepTold(level, mask, putRight, first != NONE);
        latest.keepBytes(bytes);
        latest.keepText(reader);
        return latest.length();
    }

    public int text(int i) {
        return latest.character(i);
    }

    public int told(int what) {
        return latest.fact(what);
    }

    public int taken(int i) {
        return latest.byteAt(i);
    }

    /** Each mask is tried in the grid itself: writing lays out every module anew at the end. */
    private int bestMask(int level) {
        int best = 0;
        int least = 0;
        for (int mask = 0; mask < MASKS; mask++) {
            layout.putDown(grid, bytes, level, mask);
            int penalty = grid.penalty();
            if (mask == 0 || penalty < least) {
                best = mask;
                least = penalty;
            }
        }
        return best;
    }

    private static boolean isInside(int r, int c) {
        return isLine(r) && isLine(c);
    }

    private static boolean isLine(int i) {
        return i >= 0 && i < SIDE;
    }

    private static int bitOf(int[] from, int i) {
        return from[i >> 3] >> (7 - (i & 7)) & 1;
    }

    /** The modules, a row being an int whose lowest bit is column 20. */
    private static final class Grid {
        private static final int PAIRS = (1 << (SIDE - 1)) - 1;
        private static final int LONG_RUN = 5;
        private static final int WINDOW = 11;
        private static final int EYE_THEN_LIGHT = 0b10111010000;
        private static final int LIGHT_THEN_EYE = 0b00001011101;

        private final int[] rows;

        Grid() {
            rows = new int[SIDE];
        }

        int at(int r, int c) {
            return rows[r] >> (SIDE - 1 - c) & 1;
        }

        int rowBits(int r) {
            return rows[r];
        }

        void turnOver(int r, int c) {
            rows[r] ^= 1 << (SIDE - 1 - c);
        }

        void copyRows(int[] from) {
            System.arraycopy(from, 0, rows, 0, SIDE);
        }

        int penalty() {
            int sum = penaltyOfSquares() + penaltyOfBalance();
            for (int i = 0; i < SIDE; i++) {
                sum += penaltyOfLine(rows[i]) + penaltyOfLine(columnBits(i));
            }
            return sum;
        }

        private int columnBits(int c) {
            int bits = 0;
            for (int r = 0; r < SIDE; r++) {
                bits = bits << 1 | at(r, c);
            }
            return bits;
        }

        private static int penaltyOfLine(int line) {
            return penaltyOfRuns(line) + penaltyOfEyes(line);
        }

        private static int penaltyOfRuns(int line) {
            int sum = 0;
            int run = 1;
            for (int i = 1; i <= SIDE; i++) {
                if (i < SIDE && (line >> i & 1) == (line >> (i - 1) & 1)) {
                    run++;
                } else {
                    sum += run >= LONG_RUN ? run - 2 : 0;
                    run = 1;
                }
            }
            return sum;
        }

        private static int penaltyOfEyes(int line) {
            int sum = 0;
            for (int i = 0; i + WINDOW <= SIDE; i++) {
                int window = line >> i & ((1 << WINDOW) - 1);
                if (window == EYE_THEN_LIGHT || window == LIGHT_THEN_EYE) {
                    sum += 40;
                }
            }
            return sum;
        }

        private int penaltyOfSquares() {
            int squares = 0;
            for (int r = 0; r + 1 < SIDE; r++) {
                int alikeAcross = ~(rows[r] ^ rows[r] >> 1);
                int alikeBelow = ~(rows[r] ^ rows[r + 1]);
                squares += Integer.bitCount(alikeAcross & alikeBelow & alikeBelow >> 1 & PAIRS);
            }
            return 3 * squares;
        }

        private int penaltyOfBalance() {
            int dark = 0;
            for (int r = 0; r < SIDE; r++) {
                dark += Integer.bitCount(rows[r]);
            }
            return 10 * (Math.abs(20 * dark - 4410) / 441);
        }
    }

    /** The 15 bits that tell level and mask; a form's number is 8 * (1, 0, 3, 2) + mask. */
    private static final class Form {
        private static final int BITS = 15;
        private static final int FORMS = 32;
        private static final int MOST_WRONG = 3;
        // Read as a function it is its own inverse, so it serves both ways.
        private static final int[] LEVEL_CODES = {1, 0, 3, 2};

        private Form() {
        }

        static int numberOf(int level, int mask) {
            return LEVEL_CODES[level] * MASKS + mask;
        }

        static int levelOf(int number) {
            return LEVEL_CODES[number / MASKS];
        }

        static int maskOf(int number) {
            return number % MASKS;
        }

        static int bitsOf(int number) {
            int rest = number << 10;
            for (int bit = BITS - 1; bit >= 10; bit--) {
                if ((rest >> bit & 1) == 1) {
                    rest ^= 1335 << (bit - 10);
                }
            }
            return (number << 10 | rest) ^ 21522;
        }

        static int nearest(int copy) {
            for (int number = 0; number < FORMS; number++) {
                if (Integer.bitCount(bitsOf(number) ^ copy) <= MOST_WRONG) {
                    return number;
                }
            }
            return NONE;
        }
    }

    /** Where the fixed, form and data modules are, and what the masks turn over. */
    private static final class Layout {
        private static final int EYE = 7;
        private static final int COLUMN_PAIRS = 10;
        private static final int[] FIRST_ROWS = {8, 8, 8, 8, 8, 8, 8, 8, 7, 5, 4, 3, 2, 1, 0};
        private static final int[] FIRST_COLUMNS = {0, 1, 2, 3, 4, 5, 7, 8, 8, 8, 8, 8, 8, 8, 8};
        private static final int[] SECOND_ROWS = {20, 19, 18, 17, 16, 15, 14, 8, 8, 8, 8, 8, 8, 8, 8};
        private static final int[] SECOND_COLUMNS = {8, 8, 8, 8, 8, 8, 8, 13, 14, 15, 16, 17, 18, 19, 20};

        private final int[] fixedRows;
        private final int[] dataRows;
        private final int[] dataColumns;

        Layout() {
            Grid fixed = new Grid();
            drawEye(fixed, 0, 0);
            drawEye(fixed, 0, SIDE - EYE);
            drawEye(fixed, SIDE - EYE, 0);
            drawDots(fixed);
            fixedRows = new int[SIDE];
            for (int r = 0; r < SIDE; r++) {
                fixedRows[r] = fixed.rowBits(r);
            }
            dataRows = new int[DATA_MODULES];
            dataColumns = new int[DATA_MODULES];
            fillOrder(dataRows, dataColumns);
        }

        private static void drawEye(Grid fixed, int top, int left) {
            for (int i = 0; i < EYE; i++) {
                for (int j = 0; j < EYE; j++) {
                    if (isDarkInEye(i, j)) {
                        fixed.turnOver(top + i, left + j);
                    }
                }
            }
        }

        private static boolean isDarkInEye(int i, int j) {
            boolean border = i == 0 || i == EYE - 1 || j == 0 || j == EYE - 1;
            boolean heart = i >= 2 && i <= 4 && j >= 2 && j <= 4;
            return border || heart;
        }

        private static void drawDots(Grid fixed) {
            for (int i = 8; i <= 12; i += 2) {
                fixed.turnOver(6, i);
                fixed.turnOver(i, 6);
            }
            fixed.turnOver(13, 8);
        }

        private static void fillOrder(int[] rows, int[] columns) {
            int next = 0;
            for (int pair = 0; pair < COLUMN_PAIRS; pair++) {
                // Column 6 belongs to no pair.
                int right = pair < 7 ? 20 - 2 * pair : 19 - 2 * pair;
                for (int i = 0; i < 2 * SIDE; i++) {
                    int r = pair % 2 == 0 ? SIDE - 1 - i / 2 : i / 2;
                    int c = right - i % 2;
                    if (isData(r, c) && next < DATA_MODULES) {
                        rows[next] = r;
                        columns[next] = c;
                        next++;
                    }
                }
            }
        }

        private static boolean isData(int r, int c) {
            boolean corner = r <= 8 && c <= 8 || r <= 8 && c >= 13 || r >= 13 && c <= 8;
            return !corner && r != 6 && c != 6;
        }

        private static boolean isTurned(int mask, int r, int c) {
            int p = r * c;
            switch (mask) {
                case 0:
                    return (r + c) % 2 == 0;
                case 1:
                    return r % 2 == 0;
                case 2:
                    return c % 3 == 0;
                case 3:
                    return (r + c) % 3 == 0;
                case 4:
                    return (r / 2 + c / 3) % 2 == 0;
                case 5:
                    return p % 2 + p % 3 == 0;
                case 6:
                    return (p % 2 + p % 3) % 2 == 0;
                default:
                    return ((r + c) % 2 + p % 3) % 2 == 0;
            }
        }

        void putDown(Grid grid, int[] bytes, int level, int mask) {
            grid.copyRows(fixedRows);
            int form = Form.bitsOf(Form.numberOf(level, mask));
            putForm(grid, form, FIRST_ROWS, FIRST_COLUMNS);
            putForm(grid, form, SECOND_ROWS, SECOND_COLUMNS);
            for (int i = 0; i < DATA_MODULES; i++) {
                int turned = isTurned(mask, dataRows[i], dataColumns[i]) ? 1 : 0;
                if (bitOf(bytes, i) != turned) {
                    grid.turnOver(dataRows[i], dataColumns[i]);
                }
            }
        }

        void pickUp(Grid grid, int[] bytes, int mask) {
            Arrays.fill(bytes, 0);
            for (int i = 0; i < DATA_MODULES; i++) {
                int turned = isTurned(mask, dataRows[i], dataColumns[i]) ? 1 : 0;
                bytes[i >> 3] = bytes[i >> 3] << 1 | grid.at(dataRows[i], dataColumns[i]) ^ turned;
            }
        }

        int firstCopy(Grid grid) {
            return formAt(grid, FIRST_ROWS, FIRST_COLUMNS);
        }

        int secondCopy(Grid grid) {
            return formAt(grid, SECOND_ROWS, SECOND_COLUMNS);
        }

        /** The form modules are light here, as the fixed rows leave them. */
        private static void putForm(Grid grid, int form, int[] rows, int[] columns) {
            for (int i = 0; i < Form.BITS; i++) {
                if ((form >> (Form.BITS - 1 - i) & 1) == 1) {
                    grid.turnOver(rows[i], columns[i]);
                }
            }
        }

        private static int formAt(Grid grid, int[] rows, int[] columns) {
            int form = 0;
            for (int i = 0; i < Form.BITS; i++) {
                form = form << 1 | grid.at(rows[i], columns[i]);
            }
            return form;
        }
    }

    /** The field of 256 elements; sums are exclusive ors and need no method. */
    private static final class Field {
        private static final int ORDER = 255;

        private final int[] powers;
        private final int[] logs;

        Field() {
            powers = new int[ORDER];
            logs = new int[ORDER + 1];
            int element = 1;
            for (int i = 0; i < ORDER; i++) {
                powers[i] = element;
                logs[element] = i;
                element <<= 1;
                if (element > ORDER) {
                    element ^= 285;
                }
            }
        }

        int power(int exponent) {
            return powers[Math.floorMod(exponent, ORDER)];
        }

        int product(int a, int b) {
            return a == 0 || b == 0 ? 0 : powers[(logs[a] + logs[b]) % ORDER];
        }

        /** 0 for a divisor of 0: that comes up for bytes past repair alone, which are refused. */
        int quotient(int a, int b) {
            return a == 0 || b == 0 ? 0 : powers[(logs[a] + ORDER - logs[b]) % ORDER];
        }
    }

    /** Makes check bytes, and puts wrong bytes right by Berlekamp's, Massey's and Forney's ways. */
    private static final class Checks {
        private static final int TERMS = MOST_CHECKS + 1;

        private final Field field;
        private final int[] generator;
        private final int[] rest;
        private final int[] sums;
        // These polynomials have their lowest power first, unlike the 26 bytes.
        private final int[] locator;
        private final int[] former;
        private final int[] spare;
        private final int[] evaluator;

        Checks() {
            field = new Field();
            generator = new int[TERMS];
            rest = new int[ALL_BYTES];
            sums = new int[MOST_CHECKS];
            locator = new int[TERMS];
            former = new int[TERMS];
            spare = new int[TERMS];
            evaluator = new int[MOST_CHECKS];
        }

        void append(int[] bytes, int dataBytes) {
            int checkBytes = ALL_BYTES - dataBytes;
            makeGenerator(checkBytes);
            Arrays.fill(rest, 0);
            System.arraycopy(bytes, 0, rest, 0, dataBytes);
            for (int i = 0; i < dataBytes; i++) {
                int factor = rest[i];
                for (int j = 0; j <= checkBytes; j++) {
                    rest[i + j] ^= field.product(factor, generator[j]);
                }
            }
            System.arraycopy(rest, dataBytes, bytes, dataBytes, checkBytes);
        }

        /** The product of all x + 2^i, its highest power first. */
        private void makeGenerator(int checkBytes) {
            Arrays.fill(generator, 0);
            generator[0] = 1;
            for (int i = 0; i < checkBytes; i++) {
                for (int j = i + 1; j >= 1; j--) {
                    generator[j] ^= field.product(generator[j - 1], field.power(i));
                }
            }
        }

        /** How many bytes were put right; NONE when no right ones are near enough. */
        int repair(int[] bytes, int dataBytes) {
            int checkBytes = ALL_BYTES - dataBytes;
            if (areRight(bytes, checkBytes)) {
                return 0;
            }
            int most = checkBytes / 2;
            if (findLocator(checkBytes) > most) {
                return NONE;
            }
            findEvaluator(checkBytes);
            int changed = changeWrongBytes(bytes);
            // A locator whose places are not all among the 26 is found out here.
            return changed <= most && areRight(bytes, checkBytes) ? changed : NONE;
        }

        private boolean areRight(int[] bytes, int checkBytes) {
            boolean right = true;
            for (int i = 0; i < checkBytes; i++) {
                int sum = 0;
                for (int j = 0; j < ALL_BYTES; j++) {
                    sum = field.product(sum, field.power(i)) ^ bytes[j];
                }
                sums[i] = sum;
                right = right && sum == 0;
            }
            return right;
        }

        /** The shortest recurrence that makes the sums; its length is how many bytes are wrong. */
        private int findLocator(int checkBytes) {
            Arrays.fill(locator, 0);
            Arrays.fill(former, 0);
            locator[0] = 1;
            former[0] = 1;
            int formerMiss = 1;
            int length = 0;
            int shift = 1;
            for (int n = 0; n < checkBytes; n++) {
                int miss = missAt(n, length);
                boolean grows = miss != 0 && 2 * length <= n;
                System.arraycopy(locator, 0, spare, 0, TERMS);
                addShifted(field.quotient(miss, formerMiss), shift);
                shift++;
                if (grows) {
                    System.arraycopy(spare, 0, former, 0, TERMS);
                    formerMiss = miss;
                    length = n + 1 - length;
                    shift = 1;
                }
            }
            return length;
        }

        private int missAt(int n, int length) {
            int miss = 0;
            for (int i = 0; i <= length && i <= n; i++) {
                miss ^= field.product(locator[i], sums[n - i]);
            }
            return miss;
        }

        private void addShifted(int factor, int shift) {
            for (int i = 0; i + shift < TERMS; i++) {
                locator[i + shift] ^= field.product(factor, former[i]);
            }
        }

        /** The product of sums and locator, without the powers from checkBytes on. */
        private void findEvaluator(int checkBytes) {
            Arrays.fill(evaluator, 0);
            for (int i = 0; i < checkBytes; i++) {
                for (int j = 0; j <= i; j++) {
                    evaluator[i] ^= field.product(locator[j], sums[i - j]);
                }
            }
        }

        private int changeWrongBytes(int[] bytes) {
            int changed = 0;
            for (int i = 0; i < ALL_BYTES; i++) {
                int exponent = ALL_BYTES - 1 - i;
                int change = valueAt(locator, -exponent) == 0 ? changeAt(exponent) : 0;
                bytes[i] ^= change;
                changed += change == 0 ? 0 : 1;
            }
            return changed;
        }

        private int changeAt(int exponent) {
            int slope = 0;
            for (int i = 1; i < TERMS; i += 2) {
                slope ^= field.product(locator[i], field.power(-exponent * (i - 1)));
            }
            int value = field.quotient(valueAt(evaluator, -exponent), slope);
            return field.product(value, field.power(exponent));
        }

        private int valueAt(int[] polynomial, int exponent) {
            int value = 0;
            for (int i = polynomial.length - 1; i >= 0; i--) {
                value = field.product(value, field.power(exponent)) ^ polynomial[i];
            }
            return value;
        }
    }

    /**
     * The kinds of text. In each of them a group of characters is one number, to the base of how
     * many values a character has; a kind that comes earlier is taken where it can be.
     */
    private enum Kind {
        NUMBER(1, 10, 3, 10, 3, 1),
        PLAIN(2, 9, 2, 45, 5, 1),
        FREE(4, 8, 1, 256, 8, 0);

        private static final Kind[] KINDS = values();
        private static final String PLAIN_CHARACTERS = "0123456789ABCDEFGHIJKLMNOPQRSTUVWXYZ $%*+-./:";

        private final int code;
        private final int countBits;
        private final int group;
        private final int base;
        private final int characterBits;
        private final int extraBits;

        Kind(int code, int countBits, int group, int base, int characterBits, int extraBits) {
            this.code = code;
            this.countBits = countBits;
            this.group = group;
            this.base = base;
            this.characterBits = characterBits;
            this.extraBits = extraBits;
        }

        /** Null when no kind has the code. */
        static Kind withCode(int code) {
            for (Kind kind : KINDS) {
                if (kind.code == code) {
                    return kind;
                }
            }
            return null;
        }

        static Kind fitting(char[] typed, int count) {
            for (Kind kind : KINDS) {
                if (kind.hasAll(typed, count)) {
                    return kind;
                }
            }
            return FREE;
        }

        private boolean hasAll(char[] typed, int count) {
            for (int i = 0; i < count; i++) {
                if (valueOfCharacter(typed[i]) == NONE) {
                    return false;
                }
            }
            return true;
        }

        /** Digits are the first of the plain characters, so that one order serves both kinds. */
        int valueOfCharacter(char c) {
            if (this == FREE) {
                return c;
            }
            int value = PLAIN_CHARACTERS.indexOf(c);
            return value < base ? value : NONE;
        }

        char characterOf(int value) {
            return this == FREE ? (char) value : PLAIN_CHARACTERS.charAt(value);
        }

        /** 4, 7 and 10 for digits, 6 and 11 for plain characters, 8 for a free one. */
        int groupBits(int size) {
            return characterBits * size + extraBits;
        }

        int groupLimit(int size) {
            int limit = 1;
            for (int i = 0; i < size; i++) {
                limit *= base;
            }
            return limit;
        }

        int bitsFor(int count) {
            int rest = count % group;
            int bits = KIND_BITS + countBits + count / group * groupBits(group);
            return rest == 0 ? bits : bits + groupBits(rest);
        }
    }

    /** Writes a text's bits into the data bytes. */
    private static final class TextWriter {
        private static final int EVEN_FILLER = 236;
        private static final int ODD_FILLER = 17;

        private int used;

        /** False, and the bytes of no use, when the text has too many bits. */
        boolean fillData(char[] typed, int count, int[] bytes, int dataBytes) {
            Kind kind = Kind.fitting(typed, count);
            if (kind.bitsFor(count) > 8 * dataBytes) {
                return false;
            }
            Arrays.fill(bytes, 0);
            used = 0;
            put(bytes, kind.code, KIND_BITS);
            put(bytes, count, kind.countBits);
            putCharacters(bytes, kind, typed, count);
            int ended = Math.min(used + KIND_BITS, 8 * dataBytes);
            fillRest(bytes, (ended + 7) / 8, dataBytes);
            return true;
        }

        private void putCharacters(int[] bytes, Kind kind, char[] typed, int count) {
            int group = 0;
            int size = 0;
            for (int i = 0; i < count; i++) {
                group = group * kind.base + kind.valueOfCharacter(typed[i]);
                size++;
                if (size == kind.group || i == count - 1) {
                    put(bytes, group, kind.groupBits(size));
                    group = 0;
                    size = 0;
                }
            }
        }

        private void put(int[] bytes, int value, int width) {
            for (int i = width - 1; i >= 0; i--) {
                bytes[used >> 3] |= (value >> i & 1) << (7 - (used & 7));
                used++;
            }
        }

        private static void fillRest(int[] bytes, int from, int dataBytes) {
            for (int i = from; i < dataBytes; i++) {
                bytes[i] = (i - from) % 2 == 0 ? EVEN_FILLER : ODD_FILLER;
            }
        }
    }

    /** Reads characters out of the data bytes. */
    private static final class TextReader {
        private final char[] characters;
        private int count;
        private int next;
        private int end;

        TextReader() {
            characters = new char[MOST_READ];
        }

        /** False when the bytes tell no text. */
        boolean decode(int[] bytes, int dataBytes) {
            count = 0;
            next = 0;
            end = 8 * dataBytes;
            for (int part = 0; part < end && end - next >= KIND_BITS; part++) {
                int code = take(bytes, KIND_BITS);
                if (code == 0) {
                    return true;
                }
                Kind kind = Kind.withCode(code);
                if (kind == null || !takePart(bytes, kind)) {
                    return false;
                }
            }
            return true;
        }

        private boolean takePart(int[] bytes, Kind kind) {
            int length = take(bytes, kind.countBits);
            if (length == NONE) {
                return false;
            }
            for (int done = 0; done < length; done += kind.group) {
                int size = Math.min(kind.group, length - done);
                int group = take(bytes, kind.groupBits(size));
                if (group == NONE || group >= kind.groupLimit(size)) {
                    return false;
                }
                keep(kind, group, size);
            }
            return true;
        }

        /** NONE when fewer bits are left. */
        private int take(int[] bytes, int width) {
            if (end - next < width) {
                return NONE;
            }
            int value = 0;
            for (int i = 0; i < width; i++) {
                value = value << 1 | bitOf(bytes, next);
                next++;
            }
            return value;
        }

        /** The last character of a group is its lowest place, so that they come from the back. */
        private void keep(Kind kind, int group, int size) {
            int rest = group;
            for (int i = count + size - 1; i >= count; i--) {
                if (i < MOST_READ) {
                    characters[i] = kind.characterOf(rest % kind.base);
                }
                rest /= kind.base;
            }
            count = Math.min(count + size, MOST_READ);
        }

        int length() {
            return count;
        }

        void copyTo(char[] to) {
            System.arraycopy(characters, 0, to, 0, MOST_READ);
        }
    }

    /** The latest reading that did not throw. */
    private static final class Reading {
        private static final int FACTS = 4;

        private final int[] facts;
        private final int[] bytes;
        private final char[] characters;
        private int count;

        Reading() {
            facts = new int[FACTS];
            bytes = new int[ALL_BYTES];
            characters = new char[MOST_READ];
            Arrays.fill(facts, NONE);
            Arrays.fill(bytes, NONE);
        }

        void keepTold(int level, int mask, int putRight, boolean firstCopy) {
            facts[TOLD_LEVEL] = level;
            facts[TOLD_MASK] = mask;
            facts[TOLD_PUT_RIGHT] = putRight;
            facts[TOLD_FIRST_COPY] = firstCopy ? 1 : 0;
        }

        void keepBytes(int[] from) {
            System.arraycopy(from, 0, bytes, 0, ALL_BYTES);
        }

        void keepText(TextReader from) {
            count = from.length();
            from.copyTo(characters);
        }

        int length() {
            return count;
        }

        int character(int i) {
            return i >= 0 && i < count ? characters[i] : NONE;
        }

        int fact(int what) {
            return what >= 0 && what < FACTS ? facts[what] : NONE;
        }

        int byteAt(int i) {
            return i >= 0 && i < ALL_BYTES ? bytes[i] : NONE;
        }
    }
}
