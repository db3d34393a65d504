import java.util.Random;

/** Promise 8: read. */
public final class ReadTest {
    private static final String NO_FORM = "throws.IllegalStateException";
    private static final String NO_BYTES = "throws.IllegalArgumentException";
    private static final String NO_TEXT = "throws.UnsupportedOperationException";

    public static void main(String[] args) {
        everyLevelAndMask();
        theGridStays();
        wrongFormBits();
        wrongBytes();
        farFromEveryRightOne();
        severalParts();
        whereTheTextEnds();
        wrongKinds();
        missingCharacters();
        groupsThatAreTooGreat();
        formBeforeBytesBeforeText();
        whatWasReadBeforeStays();
        Due.end();
    }

    private static void readsAs(SquareCodes x, String text, String what) {
        Due.same("read() of " + what, Codes.read(x), "" + text.length());
        Due.same("the text of " + what, Codes.readText(x, text.length()), text);
        Due.same("the end of " + what, x.text(text.length()), -1);
    }

    private static void everyLevelAndMask() {
        for (int level = 0; level < 4; level++) {
            for (int mask = 0; mask < 8; mask++) {
                for (String text : new String[] {"", "90125", "A:B", "x{y}"}) {
                    readsAs(Codes.written(text, level, mask), text, text + " by " + level + " and " + mask);
                }
            }
        }
    }

    private static void theGridStays() {
        SquareCodes x = Codes.written("STAY", 1, 2);
        Codes.spoil(x, 3, 3);
        x.flip(8, 2);
        x.flip(0, 0);
        String before = Codes.picture(x);
        readsAs(x, "STAY", "a spoilt grid");
        Due.same("the grid after reading", Codes.picture(x), before);
    }

    private static void wrongFormBits() {
        int[][][] places = Model.formPlaces();
        for (int first = 0; first <= 15; first++) {
            for (int second = 0; second <= 15; second += 3) {
                Model model = new Model();
                model.typed = "F0RM";
                model.write(2, 5);
                SquareCodes x = Codes.written("F0RM", 2, 5);
                for (int i = 0; i < first; i++) {
                    x.flip(places[0][i][0], places[0][i][1]);
                    model.flip(places[0][i][0], places[0][i][1]);
                }
                for (int i = 0; i < second; i++) {
                    x.flip(places[1][14 - i][0], places[1][14 - i][1]);
                    model.flip(places[1][14 - i][0], places[1][14 - i][1]);
                }
                String what = first + " and " + second + " wrong bits of the form";
                Due.same("read() of " + what, Codes.read(x), model.read());
                Due.same("told(3) of " + what, "" + x.told(3), model.told(3));
            }
        }
        SquareCodes x = new SquareCodes();
        Due.same("read() of a light grid", Codes.read(x), NO_FORM);
    }

    private static void wrongBytes() {
        int[] most = {3, 5, 6, 8};
        Random random = new Random(11);
        for (int level = 0; level < 4; level++) {
            for (int n = 0; n < 60; n++) {
                SquareCodes x = Codes.written("R8 " + n, level, n % 8);
                int[] there = spoilSome(x, random, most[level]);
                readsAs(x, "R8 " + n, most[level] + " wrong bytes at level " + level);
                Due.same("told(2)", x.told(2), most[level]);
                spoilOneMore(x, there);
                int[] right = Model.nearestRight(Model.bytesOf(Codes.gridOf(x), n % 8), Model.CHECKS[level]);
                Due.same("read() of one more wrong byte at level " + level,
                    Codes.read(x).equals(NO_BYTES), right == null);
            }
        }
    }

    /** Turns over one to eight bits of each of so many bytes; answers which ones. */
    private static int[] spoilSome(SquareCodes x, Random random, int count) {
        int[] spoilt = new int[26];
        for (int done = 0; done < count; ) {
            int i = random.nextInt(26);
            if (spoilt[i] == 0) {
                spoilt[i] = 1 + random.nextInt(255);
                for (int bit = 0; bit < 8; bit++) {
                    if ((spoilt[i] >> bit & 1) == 1) {
                        Codes.spoil(x, i, bit);
                    }
                }
                done++;
            }
        }
        return spoilt;
    }

    private static void spoilOneMore(SquareCodes x, int[] spoilt) {
        for (int i = 0; i < 26; i++) {
            if (spoilt[i] == 0) {
                Codes.spoil(x, i, i % 8);
                return;
            }
        }
    }

    private static void farFromEveryRightOne() {
        Random random = new Random(12);
        for (int n = 0; n < 600; n++) {
            int level = n % 4;
            int[] bytes = new int[26];
            for (int i = 0; i < 26; i++) {
                bytes[i] = random.nextInt(256);
            }
            SquareCodes x = new SquareCodes();
            Codes.become(x, Model.gridOf(bytes, level, 0));
            Model model = new Model();
            model.grid = Model.gridOf(bytes, level, 0);
            Due.same("read() of random bytes " + n, Codes.read(x), model.read());
            Due.same("taken(7) of random bytes " + n, "" + x.taken(7), model.taken(7));
        }
    }

    private static void severalParts() {
        String bits = Model.bitsOf("12345") + Model.bitsOf("AB C") + Model.bitsOf("xyz") + Model.bitsOf("9");
        readsAs(Codes.withBits(bits, 0, 3), "12345AB Cxyz9", "four parts");
        String empty = "0001" + "0000000000" + "0010" + "000000000" + "0100" + "00000000";
        readsAs(Codes.withBits(empty + Model.bitsOf("Q"), 1, 4), "Q", "empty parts before one");
        String high = "0100" + "00000011" + "11111111" + "00000000" + "10000000";
        readsAs(Codes.withBits(high, 3, 0), "\u00ff\u0000\u0080", "free ones of all bytes");
        readsAs(Codes.withBits("0010" + "000000010" + "11111101000", 3, 0), "::", "the greatest two");
        readsAs(Codes.withBits("0010" + "000000001" + "101100", 3, 0), ":", "the greatest one");
        readsAs(Codes.withBits("0001" + "0000000101" + "1111100111" + "1100011", 3, 0), "99999", "nines");
        readsAs(Codes.withBits("0001" + "0000000100" + "0000000000" + "1001", 3, 0), "0009", "zeros and a nine");
    }

    private static void whereTheTextEnds() {
        // Level 3 has 72 bits for data: fewer than four that are left say nothing, four say a kind.
        leaves(Model.bitsOf("12345678901234567"), 1, "12345678901234567");
        leaves(Model.bitsOf("ABCDEFG") + Model.bitsOf("1"), 2, "ABCDEFG1");
        leaves(Model.bitsOf("12345678") + Model.bitsOf("zz"), 3, "12345678zz");
        String seven = Model.bitsOf("7 chars");
        Due.same("the bits of 7 characters", seven.length(), 68);
        readsAs(Codes.withBits(seven + "0000", 3, 1), "7 chars", "four bits 0 at the end");
        for (String kind : new String[] {"0001", "0010", "0100", "1111"}) {
            Due.same("read() of a kind at the very end", Codes.read(Codes.withBits(seven + kind, 3, 1)), NO_TEXT);
        }
        String full = Model.bitsOf("123456789012345678901234567");
        Due.same("the bits of 27 digits", full.length(), 104);
        readsAs(Codes.withBits(full, 2, 1), "123456789012345678901234567", "a text without an end");
        String ended = Model.bitsOf("12345") + Model.bitsOf("ABCD") + "0000";
        readsAs(Codes.withBits(ended + "11", 3, 1), "12345ABCD", "bits behind the end");
        readsAs(Codes.withBits("0000" + "1111".repeat(17), 3, 2), "", "an end at once");
    }

    private static void leaves(String bits, int left, String text) {
        Due.same("the bits of " + text, 72 - bits.length(), left);
        readsAs(Codes.withBits(bits + "1".repeat(left), 3, 1), text, "a text with " + left + " bits left");
    }

    private static void wrongKinds() {
        for (int kind = 0; kind < 16; kind++) {
            SquareCodes x = Codes.withBits(Model.binary(kind, 4) + "0".repeat(68), 3, 7);
            boolean known = kind == 0 || kind == 1 || kind == 2 || kind == 4;
            Due.same("read() of the kind " + kind, Codes.read(x), known ? "0" : NO_TEXT);
            SquareCodes y = Codes.withBits(Model.bitsOf("AB") + Model.binary(kind, 4) + "0".repeat(44), 3, 7);
            Due.same("read() of the kind " + kind + " behind a part", Codes.read(y), known ? "2" : NO_TEXT);
        }
    }

    private static void missingCharacters() {
        missing("0001" + Model.binary(18, 10), "18 digits in 9 bytes");
        missing("0001" + Model.binary(1023, 10), "1023 digits in 9 bytes");
        missing("0010" + Model.binary(11, 9), "11 plain ones in 9 bytes");
        missing("0010" + Model.binary(511, 9), "511 plain ones in 9 bytes");
        missing("0100" + Model.binary(8, 8), "8 free ones in 9 bytes");
        missing("0100" + Model.binary(255, 8), "255 free ones in 9 bytes");
        Due.same("read() of a count that is cut off",
            Codes.read(Codes.withBits(Model.bitsOf("12345678901234") + "0001" + "0000000", 3, 0)), NO_TEXT);
        String start = Model.bitsOf("12345678901") + "0001";
        Due.same("the bits of a part and a kind", start.length(), 55);
        Due.same("read() of a digit that is missing",
            Codes.read(Codes.withBits(start + Model.binary(3, 10) + "0000000", 3, 0)), NO_TEXT);
        Due.same("read() of digits that are just there",
            Codes.read(Codes.withBits(start + Model.binary(2, 10) + "0000000", 3, 0)), "13");
    }

    private static void missing(String head, String what) {
        SquareCodes x = Codes.withBits(head + "0".repeat(72 - head.length()), 3, 0);
        Due.same("read() of " + what, Codes.read(x), NO_TEXT);
    }

    private static void groupsThatAreTooGreat() {
        for (int value : new int[] {999, 1000, 1023}) {
            group("0001" + Model.binary(3, 10) + Model.binary(value, 10), value < 1000 ? "3" : NO_TEXT);
        }
        for (int value : new int[] {99, 100, 127}) {
            group("0001" + Model.binary(2, 10) + Model.binary(value, 7), value < 100 ? "2" : NO_TEXT);
        }
        for (int value : new int[] {9, 10, 15}) {
            group("0001" + Model.binary(1, 10) + Model.binary(value, 4), value < 10 ? "1" : NO_TEXT);
        }
        for (int value : new int[] {2024, 2025, 2047}) {
            group("0010" + Model.binary(2, 9) + Model.binary(value, 11), value < 2025 ? "2" : NO_TEXT);
        }
        for (int value : new int[] {44, 45, 63}) {
            group("0010" + Model.binary(1, 9) + Model.binary(value, 6), value < 45 ? "1" : NO_TEXT);
        }
        group("0100" + Model.binary(1, 8) + Model.binary(255, 8), "1");
    }

    private static void group(String bits, String want) {
        Due.same("read() of " + bits, Codes.read(Codes.withBits(bits, 3, 4)), want);
    }

    private static void formBeforeBytesBeforeText() {
        SquareCodes x = Codes.withBits("1111", 0, 0);
        Due.same("read() of a wrong kind", Codes.read(x), NO_TEXT);
        for (int i = 0; i < 4; i++) {
            Codes.spoil(x, 5 * i, 1);
        }
        Due.same("read() with too many wrong bytes", Codes.read(x), NO_BYTES);
        for (int[][] copy : Model.formPlaces()) {
            // No form is near the 15 bits 0.
            for (int[] place : copy) {
                if (x.module(place[0], place[1]) == 1) {
                    x.flip(place[0], place[1]);
                }
            }
        }
        Due.same("read() without a form", Codes.read(x), NO_FORM);
    }

    private static void whatWasReadBeforeStays() {
        stays("a wrong kind", Model.gridOf(Model.withChecks(Model.filled("0011", 9)), 3, 2), NO_TEXT);
        int[] half = Model.withChecks(Model.filled(Model.bitsOf("zz") + "1111", 9));
        stays("half a text", Model.gridOf(half, 3, 2), NO_TEXT);
        int[] wrong = Model.withChecks(Model.dataOf("zz", 19));
        for (int i = 0; i < 4; i++) {
            wrong[i] ^= 1;
        }
        stays("too many wrong bytes", Model.gridOf(wrong, 0, 5), NO_BYTES);
        stays("nothing", new int[21][21], NO_FORM);
    }

    private static void stays(String what, int[][] grid, String thrown) {
        SquareCodes x = Codes.written("KEEP", 0, 1);
        Codes.spoil(x, 2, 2);
        x.read();
        int last = x.taken(25);
        Codes.become(x, grid);
        Due.same("read() of " + what, Codes.read(x), thrown);
        Due.same("the text after " + what, Codes.readText(x, 4), "KEEP");
        Due.same("text(4) after " + what, x.text(4), -1);
        Due.same("told(0) after " + what, x.told(0), 0);
        Due.same("told(1) after " + what, x.told(1), 1);
        Due.same("told(2) after " + what, x.told(2), 1);
        Due.same("told(3) after " + what, x.told(3), 1);
        Due.same("taken(25) after " + what, x.taken(25), last);
    }
}
