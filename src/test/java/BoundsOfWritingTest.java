/**
 * 'Terms', WRITING: where one kind of text ends and the next begins, full groups and rests of them,
 * the bits 0 behind the text when there is room and when there is none, and the filling bytes.
 * The bits that are due are written out by hand.
 */
public final class BoundsOfWritingTest {
    private static final String DIGITS = "0123456789";
    private static final String OTHER_PLAIN = "ABCDEFGHIJKLMNOPQRSTUVWXYZ $%*+-./:";
    private static final String FREE = "!\"#&'(),;<=>?@[\\]^_`abcdefghijklmnopqrstuvwxyz{|}~";

    public static void main(String[] args) {
        theKindOfEachCharacter();
        oneCharacterMakesTheKind();
        theValuesFrom0To44();
        groupsOfDigits();
        groupsOfPlainOnes();
        freeOnes();
        countsOfAllLengths();
        fourBitsBehindTheText();
        noRoomForFourBits();
        fillingBytesByTurns();
        justEnoughBitsAndOneTooMany();
        Due.end();
    }

    /** All bits of the data bytes, taken from the grid without reading it. */
    private static String written(String text, int level) {
        int[] bytes = Model.bytesOf(Codes.gridOf(Codes.written(text, level, 0)), 0);
        StringBuilder bits = new StringBuilder();
        for (int i = 0; i < Known.DATA[level]; i++) {
            bits.append(Model.binary(bytes[i], 8));
        }
        return bits.toString();
    }

    private static void begins(String text, String bits) {
        String want = bits.replace(" ", "");
        Due.same("the first bits of '" + text + "'", written(text, 0).substring(0, want.length()), want);
    }

    /** The whole of the data: these bits, and then so many filling bytes. */
    private static void is(String text, int level, String bits, int fillers) {
        StringBuilder want = new StringBuilder(bits.replace(" ", ""));
        for (int i = 0; i < fillers; i++) {
            want.append(i % 2 == 0 ? "11101100" : "00010001");
        }
        Due.same("the data of '" + text + "' by level " + level, written(text, level), want.toString());
    }

    /** "NUMBER when all its characters are digits, otherwise PLAIN when ..., otherwise it is FREE." */
    private static void theKindOfEachCharacter() {
        for (char c = 32; c <= 126; c++) {
            String kind = DIGITS.indexOf(c) >= 0 ? "0001" : OTHER_PLAIN.indexOf(c) >= 0 ? "0010" : "0100";
            begins("" + c, kind);
            Due.holds(c + " stands in one of the lists", (DIGITS + OTHER_PLAIN + FREE).indexOf(c) >= 0);
        }
        Due.same("how many are listed", (DIGITS + OTHER_PLAIN + FREE).length(), 95);
    }

    private static void oneCharacterMakesTheKind() {
        begins("", "0001");
        begins("09", "0001");
        for (String text : new String[] {"A09", "0A9", "09A", "09:", " 09", "/09"}) {
            begins(text, "0010");
        }
        for (String text : new String[] {"a09", "0a9", "09a", "AZz", "aAZ", "A;Z", "09;", "@AZ", "AZ[", "1,5", "A#"}) {
            begins(text, "0100");
        }
    }

    /** "the 45 characters 0 .. 9, A .. Z, space, $ % * + - . / : (with the values 0 .. 44 ...)" */
    private static void theValuesFrom0To44() {
        String plain = DIGITS + OTHER_PLAIN;
        Due.same("how many plain characters there are", plain.length(), 45);
        for (int value = 0; value < 45; value++) {
            char c = plain.charAt(value);
            begins("AZ" + c, "0010 000000011" + Model.binary(45 * 10 + 35, 11) + Model.binary(value, 6));
            begins(":" + c, "0010 000000010" + Model.binary(45 * 44 + value, 11));
            begins(c + ":", "0010 000000010" + Model.binary(45 * value + 44, 11));
        }
    }

    /** "numbers, each three digits in 10 bits, a rest of two in 7, of one in 4" */
    private static void groupsOfDigits() {
        begins("0", "0001 0000000001 0000 0000");
        begins("9", "0001 0000000001 1001 0000");
        begins("00", "0001 0000000010 0000000 0000");
        begins("99", "0001 0000000010 1100011 0000");
        begins("000", "0001 0000000011 0000000000 0000");
        begins("999", "0001 0000000011 1111100111 0000");
        begins("9990", "0001 0000000100 1111100111 0000 0000");
        begins("0009", "0001 0000000100 0000000000 1001 0000");
        begins("99909", "0001 0000000101 1111100111 0001001 0000");
        begins("999001", "0001 0000000110 1111100111 0000000001 0000");
    }

    /** "plain ones, each two, 45 times the first value and the second, in 11 bits, a rest of one in 6" */
    private static void groupsOfPlainOnes() {
        begins(":", "0010 000000001 101100 0000");
        begins("::", "0010 000000010 11111101000 0000");
        begins(":::", "0010 000000011 11111101000 101100 0000");
        begins("A0", "0010 000000010 00111000010 0000");
        begins("0A", "0010 000000010 00000001010 0000");
        begins("0A0", "0010 000000011 00000001010 000000 0000");
        begins("0AA0", "0010 000000100 00000001010 00111000010 0000");
    }

    /** "free ones, each in 8" */
    private static void freeOnes() {
        begins("~", "0100 00000001 01111110 0000");
        begins("! ", "0100 00000010 00100001 00100000 0000");
        begins(" 0a", "0100 00000011 00100000 00110000 01100001 0000");
    }

    /** "then the count of characters in 10, 9, 8 bits", for the shortest text to the longest. */
    private static void countsOfAllLengths() {
        for (int count = 0; count <= 41; count++) {
            begins("5".repeat(count), "0001" + Model.binary(count, 10));
        }
        for (int count = 1; count <= 25; count++) {
            begins("P".repeat(count), "0010" + Model.binary(count, 9));
        }
        for (int count = 1; count <= 17; count++) {
            begins("p".repeat(count), "0100" + Model.binary(count, 8));
        }
    }

    /** So many times the digit 8. */
    private static String eights(int count) {
        String rest = count % 3 == 2 ? "1011000" : count % 3 == 1 ? "1000" : "";
        return "0001" + Model.binary(count, 10) + "1101111000".repeat(count / 3) + rest;
    }

    private static void eightsAre(int count, int level, String behind, int fillers) {
        is("8".repeat(count), level, eights(count) + behind, fillers);
    }

    /**
     * "Then come four bits 0, ... then bits 0 up to a whole byte": the text ends at each of the
     * eight places in a byte; from place 5 on the four bits reach into the next byte.
     */
    private static void fourBitsBehindTheText() {
        eightsAre(3, 3, "0000 0000", 5);
        eightsAre(8, 3, "0000 000", 3);
        eightsAre(1, 3, "0000 00", 6);
        eightsAre(11, 3, "0000 0", 2);
        eightsAre(4, 3, "0000", 5);
        eightsAre(2, 3, "0000 0000000", 5);
        eightsAre(0, 3, "0000 000000", 6);
        eightsAre(5, 3, "0000 00000", 4);
    }

    /**
     * "four bits 0, or as many as there is room for": from more than a byte of room down to none.
     * (No text leaves room for two bits.)
     */
    private static void noRoomForFourBits() {
        eightsAre(14, 3, "0000 0000000", 0);
        eightsAre(15, 3, "0000 0000", 0);
        eightsAre(32, 1, "0000 000", 0);
        eightsAre(25, 2, "0000 00", 0);
        is("88888888888888888:::", 1, "0010 000010100" + "00101110000".repeat(8) + "00110010100"
            + "11111101000" + "0000 0", 0);
        eightsAre(16, 3, "0000", 0);
        eightsAre(33, 1, "0000", 0);
        eightsAre(40, 0, "0000", 0);
        is("x234567", 3, "0100 00000111 01111000 00110010 00110011 00110100 00110101 00110110 00110111 0000", 0);
        eightsAre(26, 2, "000", 0);
        eightsAre(41, 0, "0", 0);
        eightsAre(17, 3, "0", 0);
        eightsAre(27, 2, "", 0);
        eightsAre(34, 1, "", 0);
    }

    /** "then bytes 236 and 17 by turns until the data bytes are full": none of them to sixteen. */
    private static void fillingBytesByTurns() {
        String fives = "00110101";
        for (int level = 0; level < 4; level++) {
            int most = Known.DATA[level] - 2;
            for (int count = 2; count <= most; count++) {
                is("~" + "5".repeat(count - 1), level,
                    "0100" + Model.binary(count, 8) + "01111110" + fives.repeat(count - 1) + "0000", most - count);
            }
            is("", level, "0001 0000000000 0000 000000", Known.DATA[level] - 3);
        }
    }

    /** "the text does not go into the data bytes": 129 bits are one too many for 16 bytes. */
    private static void justEnoughBitsAndOneTooMany() {
        goesIn("A".repeat(20), 1, true);
        goesIn("A".repeat(21), 1, false);
        goesIn("A".repeat(21), 0, true);
        goesIn("8".repeat(34), 1, true);
        goesIn("8".repeat(35), 1, false);
        goesIn("8".repeat(27), 2, true);
        goesIn("8".repeat(28), 2, false);
        goesIn("8".repeat(41), 0, true);
        goesIn("8".repeat(42), 0, false);
        goesIn("8".repeat(45), 0, false);
        // One character more of the same length makes it another kind, which has less room.
        goesIn("8".repeat(24) + "A", 0, true);
        goesIn("8".repeat(25) + "A", 0, false);
        goesIn("8".repeat(16) + "a", 0, true);
        goesIn("8".repeat(17) + "a", 0, false);
        goesIn("A".repeat(16) + "a", 0, true);
        goesIn("A".repeat(17) + "a", 0, false);
    }

    private static void goesIn(String text, int level, boolean due) {
        for (int mask = -1; mask < 8; mask++) {
            SquareCodes x = new SquareCodes();
            Codes.type(x, text);
            boolean refused = Codes.write(x, level, mask).equals("throws.IllegalStateException");
            Due.same("write(" + level + ", " + mask + ") refuses '" + text + "'", refused, !due);
            Due.same("module(0, 0) behind it", x.module(0, 0), due ? 1 : 0);
        }
    }
}
