/** Promise 3: write. */
public final class WriteTest {
    private static final String[] TEXTS = {
        "", "0", "12", "007", "1234", "31415926535897932", "A", "AB", "HELLO WORLD", "$%*+-./: ", "Z:9",
        "a", "hello", "12,5", "~", "A_B"};
    private static final int[] MOST_DIGITS = {41, 34, 27, 17};
    private static final int[] MOST_PLAIN = {25, 20, 16, 10};
    private static final int[] MOST_FREE = {17, 14, 11, 7};

    public static void main(String[] args) {
        knownBytes();
        wholeGridsOfAllLevelsAndMasks();
        theBestMask();
        theLeastOfEquallyGoodMasks();
        theLongestTexts();
        wrongLevelsAndMasks();
        aTextThatIsTooLong();
        everyModuleIsWrittenAnew();
        whatWasReadStays();
        Due.end();
    }

    private static void knownBytes() {
        bytesOf("HELLO WORLD", 2, Known.HELLO);
        bytesOf("HELLO WORLD", 1, new int[] {
            32, 91, 11, 120, 209, 114, 220, 77, 67, 64, 236, 17, 236, 17, 236, 17,
            196, 35, 39, 119, 235, 215, 231, 226, 93, 23});
        bytesOf("01234567", 1, new int[] {
            16, 32, 12, 86, 97, 128, 236, 17, 236, 17, 236, 17, 236, 17, 236, 17,
            165, 36, 212, 193, 237, 54, 199, 135, 44, 85});
    }

    private static void bytesOf(String text, int level, int[] want) {
        SquareCodes x = Codes.written(text, level, 4);
        int[] got = Model.bytesOf(Codes.gridOf(x), 4);
        for (int i = 0; i < 26; i++) {
            Due.same("byte " + i + " of " + text + " by level " + level, got[i], want[i]);
        }
    }

    private static void wholeGridsOfAllLevelsAndMasks() {
        for (String text : TEXTS) {
            for (int level = 0; level < 4; level++) {
                for (int mask = -1; mask < 8; mask++) {
                    againstTheModel(text, level, mask);
                }
            }
        }
    }

    private static void againstTheModel(String text, int level, int mask) {
        SquareCodes x = new SquareCodes();
        Model model = new Model();
        Codes.type(x, text);
        model.typed = text;
        String call = "write(" + level + ", " + mask + ") of " + text;
        Due.same(call, Codes.write(x, level, mask), model.write(level, mask));
        Due.same("the grid of " + call, Codes.picture(x), Codes.picture(model.grid));
    }

    private static void theBestMask() {
        for (int n = 0; n < 40; n++) {
            String text = "" + n * 7919;
            SquareCodes x = new SquareCodes();
            int best = 0;
            int least = Integer.MAX_VALUE;
            for (int mask = 0; mask < 8; mask++) {
                Codes.type(x, text);
                x.write(n % 4, mask);
                if (x.ugliness() < least) {
                    best = mask;
                    least = x.ugliness();
                }
            }
            Codes.type(x, text);
            Due.same("write(" + n % 4 + ", -1) of " + text, Codes.write(x, n % 4, -1), "" + best);
            Due.same("the ugliness of it", x.ugliness(), least);
        }
    }

    /** Looks for texts whose two best masks are equally good: of these the lesser one is due. */
    private static void theLeastOfEquallyGoodMasks() {
        int ties = 0;
        for (int n = 0; n < 400 && ties < 5; n++) {
            int[] bytes = Model.withChecks(Model.dataOf("" + n, 9));
            int first = -1;
            int least = Integer.MAX_VALUE;
            boolean tie = false;
            for (int mask = 0; mask < 8; mask++) {
                int ugliness = Model.uglinessOf(Model.gridOf(bytes, 3, mask));
                tie = ugliness < least ? false : tie || ugliness == least;
                first = ugliness < least ? mask : first;
                least = Math.min(least, ugliness);
            }
            if (tie) {
                ties++;
                SquareCodes x = new SquareCodes();
                Codes.type(x, "" + n);
                Due.same("write(3, -1) of " + n, Codes.write(x, 3, -1), "" + first);
            }
        }
        Due.holds("some texts have two best masks", ties > 0);
    }

    private static void theLongestTexts() {
        for (int level = 0; level < 4; level++) {
            longest("8", MOST_DIGITS[level], level);
            longest("Q", MOST_PLAIN[level], level);
            longest("q", MOST_FREE[level], level);
        }
    }

    private static void longest(String letter, int most, int level) {
        for (int count = most - 3; count <= most; count++) {
            againstTheModel(letter.repeat(count), level, 6);
        }
        SquareCodes x = Codes.written(letter.repeat(most), level, 2);
        Due.same("read() of " + most + " times " + letter, Codes.read(x), "" + most);
        Codes.type(x, letter.repeat(most + 1));
        Due.same("write(" + level + ", 2) of " + (most + 1) + " times " + letter,
            Codes.write(x, level, 2), "throws.IllegalStateException");
    }

    private static void wrongLevelsAndMasks() {
        int[][] wrong = {{-1, 0}, {4, 0}, {0, -2}, {0, 8}, {-1, -1}, {4, 8}, {Integer.MIN_VALUE, 0},
            {Integer.MAX_VALUE, 0}, {0, Integer.MIN_VALUE}, {0, Integer.MAX_VALUE}};
        SquareCodes x = Codes.written("AB", 1, 1);
        String before = Codes.picture(x);
        Codes.type(x, "stay");
        for (int[] call : wrong) {
            Due.same("write(" + call[0] + ", " + call[1] + ")",
                Codes.write(x, call[0], call[1]), "throws.IllegalArgumentException");
        }
        Due.same("the grid after wrong calls", Codes.picture(x), before);
        Due.same("write(1, 7)", Codes.write(x, 1, 7), "7");
        Due.same("read()", Codes.read(x), "4");
        Due.same("the text that stayed", Codes.readText(x, 4), "stay");
    }

    private static void aTextThatIsTooLong() {
        SquareCodes x = Codes.written("AB", 1, 1);
        x.flip(3, 3);
        String before = Codes.picture(x);
        Codes.type(x, "this is too long for it");
        Due.same("write(4, 0) of a long text", Codes.write(x, 4, 0), "throws.IllegalArgumentException");
        Due.same("write(3, -1) of a long text", Codes.write(x, 3, -1), "throws.IllegalStateException");
        Due.same("the grid after it", Codes.picture(x), before);
        Due.same("write(3, 5) of no text", Codes.write(x, 3, 5), "5");
        Due.same("read()", Codes.read(x), "0");
    }

    private static void everyModuleIsWrittenAnew() {
        SquareCodes x = new SquareCodes();
        for (int i = 0; i < 400; i++) {
            x.flip(i % 21, i / 21);
        }
        Codes.type(x, "NEW");
        x.write(0, 3);
        Due.same("the grid", Codes.picture(x), Codes.picture(Codes.written("NEW", 0, 3)));
    }

    private static void whatWasReadStays() {
        SquareCodes x = Codes.written("one", 2, 3);
        x.read();
        Codes.type(x, "22");
        x.write(1, 0);
        Due.same("the text read before", Codes.readText(x, 3), "one");
        Due.same("told(0)", x.told(0), 2);
        Due.same("taken(0)", x.taken(0), 64);
        Due.same("read()", Codes.read(x), "2");
        Due.same("taken(0) after it", x.taken(0), 16);
    }
}
