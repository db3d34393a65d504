/** 'Terms', READING, and promise 8: where a form, bytes or a text are just still there, and where not. */
public final class BoundsOfReadingTest {
    private static final String NO_FORM = "throws.IllegalStateException";
    private static final String NO_BYTES = "throws.IllegalArgumentException";
    private static final String NO_TEXT = "throws.UnsupportedOperationException";

    /** Two free characters, and then no kind, a count without its characters, or a group of 1000. */
    private static final String[] BAD_DATA = {
        "0100 00000010 01000001 01000010 0011",
        "0100 00000010 01000001 01000010 0100 11111111",
        "0100 00000010 01000001 01000010 0001 0000000011 1111101000"};

    public static void main(String[] args) {
        wrongBitsOfTheFirstCopy();
        wrongBitsOfTheSecondCopy();
        theSecondCopyIsLookedAtLast();
        wrongBytesUpToHalfTheCheckBytes();
        oneWrongByteMoreOfAnyValue();
        betweenTwoRightOnes();
        howManyBitsAreLeft();
        charactersThatJustEnd();
        countsThatJustEnd();
        theGreatestGroups();
        howManyCharacters();
        nothingWasReadByAReadingThatThrows();
        whatWasReadBeforeStays();
        theGridStays();
        Due.end();
    }

    // ---- FORM

    private static void flipBits(SquareCodes x, int[][] copy, int bits) {
        for (int i = 0; i < 15; i++) {
            if ((bits >> (14 - i) & 1) == 1) {
                x.flip(copy[i][0], copy[i][1]);
            }
        }
    }

    private static void toldIs(SquareCodes x, String what, int level, int mask, int putRight, int first) {
        int[] due = {level, mask, putRight, first};
        for (int i = 0; i < 4; i++) {
            Due.same("told(" + i + ") of " + what, x.told(i), due[i]);
        }
    }

    /** "differs from the first copy in 3 bits at most": all ways to turn over up to four bits of it. */
    private static void wrongBitsOfTheFirstCopy() {
        int form = Known.FORMS[2][5];
        int second = 0;
        for (int wrong = 0; wrong < 1 << 15; wrong++) {
            int count = Integer.bitCount(wrong);
            int near = Known.formNear(form ^ wrong);
            // Four wrong bits may be three from another form, which is the form then.
            if (count <= 3 || count == 4 && near == -1) {
                SquareCodes x = Codes.written("F0RM", 2, 5);
                flipBits(x, Known.FIRST_COPY, wrong);
                String what = "a first copy with the wrong bits " + wrong;
                Due.same("read() of " + what, Codes.read(x), "4");
                toldIs(x, what, 2, 5, 0, count <= 3 ? 1 : 0);
                second += count == 4 ? 1 : 0;
            }
        }
        Due.holds("four wrong bits are too many in some ways", second > 100);
    }

    /** "otherwise from the second copy likewise", behind a first copy that no form is near to. */
    private static void wrongBitsOfTheSecondCopy() {
        int form = Known.FORMS[1][3];
        Due.same("a form near the bits 0", Known.formNear(0), -1);
        for (int wrong = 0; wrong < 1 << 15; wrong++) {
            int count = Integer.bitCount(wrong);
            if (count <= 3 || count == 4 && Known.formNear(form ^ wrong) == -1) {
                SquareCodes x = Codes.written("F0RM", 1, 3);
                flipBits(x, Known.FIRST_COPY, form);
                flipBits(x, Known.SECOND_COPY, wrong);
                String what = "a second copy with the wrong bits " + wrong;
                Due.same("read() of " + what, Codes.read(x), count <= 3 ? "4" : NO_FORM);
                toldIs(x, what, count <= 3 ? 1 : -1, count <= 3 ? 3 : -1, count <= 3 ? 0 : -1, count <= 3 ? 0 : -1);
            }
        }
    }

    /** A first copy that is near another form decides, however right the second one is. */
    private static void theSecondCopyIsLookedAtLast() {
        for (int other = 0; other < 32; other++) {
            SquareCodes x = Codes.written("", 0, 0);
            int[] bytes = Model.withChecks(Model.dataOf("IT", Known.DATA[other / 8]));
            Codes.become(x, Model.gridOf(bytes, other / 8, other % 8));
            int away = Known.FORMS[other / 8][other % 8] ^ Known.FORMS[3 - other / 8][7 - other % 8];
            flipBits(x, Known.SECOND_COPY, away);
            flipBits(x, Known.FIRST_COPY, 0b000100100000100);
            Due.same("read() of the form " + other + " and another second copy", Codes.read(x), "2");
            toldIs(x, "the form " + other, other / 8, other % 8, 0, 1);
        }
        SquareCodes x = Codes.written("WRONG MASK", 1, 4);
        flipBits(x, Known.FIRST_COPY, Known.FORMS[1][4] ^ Known.FORMS[1][0]);
        Due.same("read() of a first copy with another mask", Codes.read(x), NO_BYTES);
    }

    // ---- BYTES

    /** "in no more than e / 2 (whole number) of the 26": at the front, at the back, and spread. */
    private static void wrongBytesUpToHalfTheCheckBytes() {
        for (int level = 0; level < 4; level++) {
            for (int spoilt : new int[] {0b10000000, 0b00000001, 0b11111111}) {
                wrongBytes(level, 0, 1, spoilt);
                wrongBytes(level, 25, -1, spoilt);
                wrongBytes(level, 25, 1, spoilt);
                wrongBytes(level, Known.DATA[level] - 2, 1, spoilt);
                wrongBytes(level, 1, 3, spoilt);
            }
        }
    }

    private static void wrongBytes(int level, int from, int step, int spoilt) {
        SquareCodes x = Codes.written("R1GHT", level, 2);
        for (int wrong = 0; wrong <= Known.MOST_WRONG[level] + 1; wrong++) {
            String what = wrong + " wrong bytes at level " + level + " from " + from + " by " + step;
            boolean due = wrong <= Known.MOST_WRONG[level];
            Due.same("read() of " + what, Codes.read(x), due ? "5" : NO_BYTES);
            Due.same("told(2) of " + what, x.told(2), due ? wrong : wrong - 1);
            changeByte(x, Math.floorMod(from + wrong * step, 26), spoilt);
        }
    }

    private static void changeByte(SquareCodes x, int i, int change) {
        for (int bit = 0; bit < 8; bit++) {
            if ((change >> (7 - bit) & 1) == 1) {
                Codes.spoil(x, i, bit);
            }
        }
    }

    /**
     * With an odd e and e / 2 + 1 wrong bytes, a way that finds wrong bytes by solving equations may
     * come upon the very ones, for one value of the last in some 256: they are too many all the same.
     */
    private static void oneWrongByteMoreOfAnyValue() {
        for (int level : new int[] {0, 2, 3}) {
            for (int last = 20; last < 26; last++) {
                for (int value = 1; value < 256; value++) {
                    SquareCodes x = Codes.written("R1GHT", level, 2);
                    for (int i = 0; i < Known.MOST_WRONG[level]; i++) {
                        changeByte(x, 2 * i, 17 * i + 1);
                    }
                    changeByte(x, last, value);
                    Due.same("read() with byte " + last + " wrong by " + value + ", too, at level " + level,
                        Codes.read(x), NO_BYTES);
                }
            }
        }
    }

    /**
     * Byte by byte from right ones to the nearest other right ones, which are e + 1 bytes away: the
     * first are taken up to e / 2, the others from e / 2 before the end on, and none between.
     */
    private static void betweenTwoRightOnes() {
        for (int level = 0; level < 4; level++) {
            int e = Known.CHECKS[level];
            int[] first = Known.EMPTY_TEXT[level];
            SquareCodes x = Codes.written("", level, 6);
            for (int changed = 0; changed <= e + 1; changed++) {
                int left = e + 1 - changed;
                boolean atFirst = changed <= e / 2;
                boolean taken = atFirst || left <= e / 2;
                String what = changed + " of " + (e + 1) + " bytes changed at level " + level;
                Due.same("read() of " + what, Codes.read(x), taken ? "0" : NO_BYTES);
                if (taken) {
                    Due.same("told(2) of " + what, x.told(2), Math.min(changed, left));
                    for (int i = 0; i <= e; i++) {
                        int due = first[25 - e + i] ^ (atFirst ? 0 : Known.LEAST_RIGHT[level][i]);
                        Due.same("taken(" + (25 - e + i) + ") of " + what, x.taken(25 - e + i), due);
                    }
                }
                if (changed <= e) {
                    changeByte(x, 25 - e + changed, Known.LEAST_RIGHT[level][changed]);
                }
            }
        }
    }

    // ---- TEXT; level 3 has room for 72 bits

    private static String parts(String... texts) {
        StringBuilder bits = new StringBuilder();
        for (String text : texts) {
            bits.append(Model.bitsOf(text));
        }
        return bits.toString();
    }

    /** Level 3 with these bits, which are all there is room for. */
    private static void reads(String bits, String due) {
        String all = bits.replace(" ", "");
        Due.same("the length of " + bits, all.length(), 72);
        Due.same("read() of " + bits, Codes.read(Codes.withBits(all, 3, 1)), due);
    }

    /** "as long as 4 bits or more are left of the data bytes, the next 4 say the kind, 0 that the text ends" */
    private static void howManyBitsAreLeft() {
        leaves(parts("0123456789", "AB"), 0, 12);
        leaves(parts("01234567890123456"), 1, 17);
        leaves(parts("ABCDEF", "AB"), 2, 8);
        leaves(parts("01234567", "0123"), 3, 12);
        leaves(parts("0123456789012345"), 4, 16);
        leaves(parts("ABCDEF", "01"), 5, 8);
    }

    /** Whatever is left in fewer than four bits is no kind; in four or five only the kind 0 can stand. */
    private static void leaves(String bits, int left, int count) {
        for (int rest = 0; rest < 1 << left; rest++) {
            boolean ends = left < 4 || rest >> (left - 4) == 0;
            reads(bits + (left == 0 ? "" : Model.binary(rest, left)), ends ? "" + count : NO_TEXT);
        }
    }

    /** "characters are missing at the end": each sort of group with all its bits, and one bit short. */
    private static void charactersThatJustEnd() {
        String of48 = parts("0123456789");
        String of49 = parts("ABC", "D");
        String of51 = parts("01234567890");
        String of52 = parts("abcde");
        String of53 = parts("01234567") + "0100 00000000";
        String of54 = parts("012345678901");
        String of55 = parts("01234567", "");
        reads(of48 + "0001 0000000011 1111100111", "13");
        reads(of49 + "0001 0000000011 111110011", NO_TEXT);
        reads(of51 + "0001 0000000010 1100011", "13");
        reads(of52 + "0001 0000000010 110001", NO_TEXT);
        reads(of54 + "0001 0000000001 1001", "13");
        reads(of55 + "0001 0000000001 100", NO_TEXT);
        reads(of48 + "0010 000000010 11111101000", "12");
        reads(of49 + "0010 000000010 1111110100", NO_TEXT);
        reads(of53 + "0010 000000001 101100", "9");
        reads(of54 + "0010 000000001 10110", NO_TEXT);
        reads(of52 + "0100 00000001 11111111", "6");
        reads(of53 + "0100 00000001 1111111", NO_TEXT);
        // One character more than there are bits for, and one fewer.
        reads(of48 + "0001 0000000100 1111100111", NO_TEXT);
        reads(of48 + "0001 0000000010 1100011 000", "12");
        reads(of48 + "0010 000000011 11111101000", NO_TEXT);
        reads(of48 + "0010 000000001 101100 0000 0", "11");
        reads(of52 + "0100 00000010 11111111", NO_TEXT);
        reads(of52 + "0100 00000000 0000 1111", "5");
    }

    /** A count that is cut off: its characters are missing, even if it could only have been 0. */
    private static void countsThatJustEnd() {
        String of58 = parts("0123456789012");
        String of59 = parts("01234567", "0");
        String of60 = parts("abcdef");
        String of61 = parts("01234567890123");
        reads(of58 + "0001 0000000000", "13");
        reads(of59 + "0001 000000000", NO_TEXT);
        reads(of59 + "0010 000000000", "9");
        reads(of60 + "0010 00000000", NO_TEXT);
        reads(of60 + "0100 00000000", "6");
        reads(of61 + "0100 0000000", NO_TEXT);
        reads(of58 + "0001 0000000001", NO_TEXT);
        reads(of59 + "0010 000000001", NO_TEXT);
        reads(of60 + "0100 00000001", NO_TEXT);
    }

    /** "a group of digits or values is too great (1000, 100, 10, 2025, 45 or more)" */
    private static void theGreatestGroups() {
        String nines = "1111100111";
        String colons = "11111101000";
        groups("0001 0000000011", 10, 1000, "", 3);
        groups("0001 0000000110", 10, 1000, nines, 6);
        groups("0001 0000000110" + nines, 10, 1000, "", 6);
        groups("0001 0000000010", 7, 100, "", 2);
        groups("0001 0000000101" + nines, 7, 100, "", 5);
        groups("0001 0000000001", 4, 10, "", 1);
        groups("0001 0000000100" + nines, 4, 10, "", 4);
        groups("0010 000000010", 11, 2025, "", 2);
        groups("0010 000000100", 11, 2025, colons, 4);
        groups("0010 000000100" + colons, 11, 2025, "", 4);
        groups("0010 000000001", 6, 45, "", 1);
        groups("0010 000000011" + colons, 6, 45, "", 3);
        groups("0100 00000001", 8, 256, "", 1);
        groups("0100 00000010 11111111", 8, 256, "", 2);
    }

    /** Just below the limit, at it and above it, up to the greatest value that the bits can say. */
    private static void groups(String before, int width, int limit, String after, int count) {
        int greatest = (1 << width) - 1;
        for (int value : new int[] {0, limit - 2, limit - 1, limit, limit + 1, greatest - 1, greatest}) {
            if (value <= greatest) {
                String bits = (before + Model.binary(value, width) + after).replace(" ", "");
                Due.same("read() of " + value + " in " + before + " .. " + after,
                    Codes.read(Codes.withBits(bits, 3, 4)), value < limit ? "" + count : NO_TEXT);
            }
        }
    }

    /** "how many characters": none, one, and as many as each level has room for. */
    private static void howManyCharacters() {
        String pi = "31415926535897932384626433832795028841971";
        int[] most = {41, 34, 27, 17};
        for (int level = 0; level < 4; level++) {
            for (int count : new int[] {0, 1, most[level] - 1, most[level]}) {
                SquareCodes x = Codes.written(pi.substring(0, count), level, 3);
                String what = count + " digits by level " + level;
                Due.same("read() of " + what, Codes.read(x), "" + count);
                Due.same("the text of " + what, Codes.readText(x, count), pi.substring(0, count));
                Due.same("text(-1) of " + what, x.text(-1), -1);
                Due.same("text(" + count + ") of " + what, x.text(count), -1);
            }
        }
    }

    // ---- readings that throw

    /** Grids that can't be read: three with bad data, one with four wrong bytes, one without a form. */
    private static int[][] badGrid(int which) {
        if (which < BAD_DATA.length) {
            String bits = BAD_DATA[which].replace(" ", "");
            return Model.gridOf(Model.withChecks(Model.filled(bits, 9)), 3, 2);
        }
        int[] bytes = Known.EMPTY_TEXT[0].clone();
        for (int i = 0; i < 4; i++) {
            bytes[6 * i] ^= 255;
        }
        return which == BAD_DATA.length ? Model.gridOf(bytes, 0, 7) : new int[21][21];
    }

    private static String thrownBy(int which) {
        return which < BAD_DATA.length ? NO_TEXT : which == BAD_DATA.length ? NO_BYTES : NO_FORM;
    }

    /** "NONE ... when nothing was read": a reading that throws has read nothing. */
    private static void nothingWasReadByAReadingThatThrows() {
        for (int which = 0; which < 5; which++) {
            SquareCodes x = new SquareCodes();
            Codes.become(x, badGrid(which));
            Due.same("read() of bad grid " + which, Codes.read(x), thrownBy(which));
            toldIs(x, "bad grid " + which, -1, -1, -1, -1);
            for (int i = 0; i < 26; i++) {
                Due.same("taken(" + i + ") of bad grid " + which, x.taken(i), -1);
                Due.same("text(" + i + ") of bad grid " + which, x.text(i), -1);
            }
        }
    }

    /** "What was read before stays when it throws." */
    private static void whatWasReadBeforeStays() {
        for (int which = 0; which < 5; which++) {
            SquareCodes x = Codes.written("HELLO WORLD", 2, 5);
            flipBits(x, Known.FIRST_COPY, Known.FORMS[2][5]);
            Codes.spoil(x, 25, 7);
            Due.same("read() by the second copy", Codes.read(x), "11");
            Codes.become(x, badGrid(which));
            Due.same("read() of bad grid " + which, Codes.read(x), thrownBy(which));
            toldIs(x, "what was read before bad grid " + which, 2, 5, 1, 0);
            Due.same("the text read before bad grid " + which, Codes.readText(x, 11), "HELLO WORLD");
            Due.same("text(11) of it", x.text(11), -1);
            for (int i = 0; i < 26; i++) {
                Due.same("taken(" + i + ") of what was read before bad grid " + which, x.taken(i), Known.HELLO[i]);
            }
        }
    }

    /** "Reads the grid (which stays as it is)", whether it throws or puts bytes right. */
    private static void theGridStays() {
        for (int which = 0; which < 5; which++) {
            SquareCodes x = new SquareCodes();
            Codes.become(x, badGrid(which));
            Codes.read(x);
            Due.same("bad grid " + which + " after reading", Codes.picture(x), Codes.picture(badGrid(which)));
        }
        SquareCodes x = Codes.written("HELLO WORLD", 2, 5);
        flipBits(x, Known.FIRST_COPY, 0b111);
        flipBits(x, Known.SECOND_COPY, 0b111111111111111);
        for (int i = 0; i < 6; i++) {
            changeByte(x, 5 * i, 255);
        }
        String before = Codes.picture(x);
        Due.same("read() of six wrong bytes", Codes.read(x), "11");
        Due.same("the grid after reading", Codes.picture(x), before);
    }
}
