/** Promises 2 to 7 and 9 to 11: the first and last arguments that are good, and those next to them. */
public final class BoundsOfAnswersTest {
    private static final int[] FAR = {Integer.MIN_VALUE, -256, -21, 42, 256, 441, Integer.MAX_VALUE};

    public static void main(String[] args) {
        typeFrom32To126();
        typeUpTo45();
        writeLevelsAndMasks();
        writeRefusedBeforeTheTextIsLookedAt();
        writeOfATextThatIsTooLong();
        writeByTheBestMask();
        modulesAtTheEdge();
        flipsAtTheEdge();
        rowsAtTheEdge();
        textFrom0On();
        toldFrom0To3();
        takenFrom0To25();
        Due.end();
    }

    // ---- promise 2

    private static void typeFrom32To126() {
        int[] bad = {0, 1, 31, 127, 128, 255, 256, 256 + 'A', 0x7fff, 0x8000, 0xff41, 0xffff};
        for (int c : bad) {
            Due.same("type((char) " + c + ")", new SquareCodes().type((char) c), false);
        }
        SquareCodes x = new SquareCodes();
        for (int c : new int[] {32, 33, 125, 126}) {
            Due.same("type((char) " + c + ")", x.type((char) c), true);
        }
        x.write(0, 0);
        x.read();
        Due.same("the text of the first and the last ones", Codes.readText(x, 4), " !}~");
    }

    /** "false when there are 45": a character that is refused takes no place. */
    private static void typeUpTo45() {
        SquareCodes x = new SquareCodes();
        Codes.type(x, "1".repeat(43));
        Due.same("type of a bad one behind 43", x.type((char) 127), false);
        Due.same("type of the 44th", x.type('1'), true);
        Due.same("type of a bad one behind 44", x.type((char) 31), false);
        Due.same("type of the 45th", x.type('1'), true);
        Due.same("type of the 46th", x.type('1'), false);
        Due.same("type of a bad one behind 45", x.type((char) 31), false);
        Due.same("type of the 46th again", x.type('1'), false);
    }

    // ---- promise 3

    private static void writeLevelsAndMasks() {
        int[] levels = {Integer.MIN_VALUE, -2, -1, 0, 1, 2, 3, 4, 5, 256, Integer.MAX_VALUE};
        int[] masks = {Integer.MIN_VALUE, -3, -2, -1, 0, 1, 2, 3, 4, 5, 6, 7, 8, 9, 256, Integer.MAX_VALUE};
        for (int level : levels) {
            for (int mask : masks) {
                boolean good = level >= 0 && level <= 3 && mask >= -1 && mask <= 7;
                SquareCodes x = Codes.written("OLD", 1, 1);
                String old = Codes.picture(x);
                Codes.type(x, "new");
                String answer = Codes.write(x, level, mask);
                String call = "write(" + level + ", " + mask + ")";
                Due.same(call + " throws", answer.equals("throws.IllegalArgumentException"), !good);
                Due.same("the grid stays in " + call, Codes.picture(x).equals(old), !good);
                x.write(0, 0);
                Due.same("read() of what is left typed by " + call, Codes.read(x), good ? "0" : "3");
            }
        }
    }

    /** "nothing is changed, the text stays", even a text that would not go in. */
    private static void writeRefusedBeforeTheTextIsLookedAt() {
        SquareCodes x = Codes.written("OLD", 1, 1);
        x.read();
        Codes.type(x, "7".repeat(45));
        String old = Codes.picture(x);
        for (int[] bad : new int[][] {{3, 8}, {3, -2}, {-1, 0}, {4, -1}, {-1, 8}, {4, -2}}) {
            Due.same("write(" + bad[0] + ", " + bad[1] + ") of 45 digits", Codes.write(x, bad[0], bad[1]),
                "throws.IllegalArgumentException");
            Due.same("type behind 45 that stayed", x.type('7'), false);
        }
        Due.same("the grid after it", Codes.picture(x), old);
        Due.same("the text read before", Codes.readText(x, 3), "OLD");
        Due.same("write(0, 7) of 45 digits", Codes.write(x, 0, 7), "throws.IllegalStateException");
        Due.same("type behind none", x.type('7'), true);
    }

    /** "it is empty then, and the grid as it was": for the first text of each kind that is too long. */
    private static void writeOfATextThatIsTooLong() {
        String[] kinds = {"4", "K", "k"};
        int[][] most = {{41, 34, 27, 17}, {25, 20, 16, 10}, {17, 14, 11, 7}};
        for (int kind = 0; kind < 3; kind++) {
            for (int level = 0; level < 4; level++) {
                for (int mask : new int[] {-1, 0, 7}) {
                    tooLong(kinds[kind], most[kind][level], level, mask);
                }
            }
        }
    }

    private static void tooLong(String letter, int most, int level, int mask) {
        SquareCodes x = Codes.written(letter.repeat(most), level, mask);
        x.flip(0, 0);
        x.read();
        String old = Codes.picture(x);
        Codes.type(x, letter.repeat(most + 1));
        String call = "write(" + level + ", " + mask + ") of " + (most + 1) + " times " + letter;
        Due.same(call, Codes.write(x, level, mask), "throws.IllegalStateException");
        Due.same("the grid after " + call, Codes.picture(x), old);
        Due.same("text(" + (most - 1) + ") after " + call, x.text(most - 1), (int) letter.charAt(0));
        Due.same("text(" + most + ") after " + call, x.text(most), -1);
        Due.same("read() after " + call, Codes.read(x), "" + most);
        x.write(level, 0);
        Due.same("read() of what is left typed by " + call, Codes.read(x), "0");
        for (int i = 1; i <= 46; i++) {
            Due.same("type " + i + " after " + call, x.type('1'), i <= 45);
        }
    }

    /** "by the one of whose grid the ugliness is least, of several the least mask" */
    private static void writeByTheBestMask() {
        int[] best = new int[8];
        int ties = 0;
        for (int n = 0; n < 300; n++) {
            String text = "" + n * n;
            SquareCodes x = new SquareCodes();
            int least = Integer.MAX_VALUE;
            int first = -1;
            int equals = 0;
            for (int mask = 0; mask < 8; mask++) {
                Codes.type(x, text);
                x.write(n % 4, mask);
                int ugliness = x.ugliness();
                equals = ugliness < least ? 1 : ugliness == least ? equals + 1 : equals;
                first = ugliness < least ? mask : first;
                least = Math.min(least, ugliness);
            }
            Codes.type(x, text);
            Due.same("write(" + n % 4 + ", -1) of " + text, Codes.write(x, n % 4, -1), "" + first);
            Due.same("ugliness() of it", x.ugliness(), least);
            best[first]++;
            ties += equals > 1 ? 1 : 0;
        }
        for (int mask = 0; mask < 8; mask++) {
            Due.holds("mask " + mask + " is the best one of some text", best[mask] > 0);
        }
        Due.holds("some texts have several best masks", ties > 0);
    }

    // ---- promises 4 to 6

    private static SquareCodes darkEdge() {
        SquareCodes x = new SquareCodes();
        for (int i = 0; i < 21; i++) {
            for (int edge : new int[] {0, 20}) {
                x.flip(edge, i);
                if (i != 0 && i != 20) {
                    x.flip(i, edge);
                }
            }
        }
        return x;
    }

    /** The edge of the grid is dark here, so that nothing beside it can be taken for it. */
    private static void modulesAtTheEdge() {
        SquareCodes x = darkEdge();
        for (int i = 0; i < 21; i++) {
            Due.same("module(0, " + i + ")", x.module(0, i), 1);
            Due.same("module(20, " + i + ")", x.module(20, i), 1);
            Due.same("module(" + i + ", 0)", x.module(i, 0), 1);
            Due.same("module(" + i + ", 20)", x.module(i, 20), 1);
            for (int out : new int[] {-1, 21}) {
                Due.same("module(" + out + ", " + i + ")", x.module(out, i), -1);
                Due.same("module(" + i + ", " + out + ")", x.module(i, out), -1);
            }
        }
        for (int r : new int[] {-1, 21}) {
            for (int c : new int[] {-1, 21}) {
                Due.same("module(" + r + ", " + c + ")", x.module(r, c), -1);
            }
        }
        Due.same("module(1, 1)", x.module(1, 1), 0);
        Due.same("module(19, 19)", x.module(19, 19), 0);
        for (int far : FAR) {
            Due.same("module(" + far + ", 10)", x.module(far, 10), -1);
            Due.same("module(10, " + far + ")", x.module(10, far), -1);
        }
    }

    private static void flipsAtTheEdge() {
        SquareCodes x = darkEdge();
        String before = Codes.picture(x);
        for (int i = -1; i <= 21; i++) {
            for (int out : new int[] {-1, 21}) {
                Due.same("flip(" + out + ", " + i + ")", Codes.flip(x, out, i), "throws.IllegalArgumentException");
                Due.same("flip(" + i + ", " + out + ")", Codes.flip(x, i, out), "throws.IllegalArgumentException");
            }
        }
        for (int far : FAR) {
            Due.same("flip(" + far + ", 10)", Codes.flip(x, far, 10), "throws.IllegalArgumentException");
            Due.same("flip(10, " + far + ")", Codes.flip(x, 10, far), "throws.IllegalArgumentException");
        }
        Due.same("the grid after it", Codes.picture(x), before);
        for (int[] corner : new int[][] {{0, 0}, {0, 20}, {20, 0}, {20, 20}}) {
            String call = "flip(" + corner[0] + ", " + corner[1] + ")";
            Due.same(call, Codes.flip(x, corner[0], corner[1]), "0");
            Due.same(call + " again", Codes.flip(x, corner[0], corner[1]), "1");
        }
    }

    private static void rowsAtTheEdge() {
        SquareCodes x = darkEdge();
        Due.same("row(-1)", x.row(-1), -1);
        Due.same("row(0)", x.row(0), (1 << 21) - 1);
        Due.same("row(1)", x.row(1), (1 << 20) + 1);
        Due.same("row(19)", x.row(19), (1 << 20) + 1);
        Due.same("row(20)", x.row(20), (1 << 21) - 1);
        Due.same("row(21)", x.row(21), -1);
        for (int far : FAR) {
            Due.same("row(" + far + ")", x.row(far), -1);
        }
    }

    // ---- promises 9 to 11

    private static void textFrom0On() {
        SquareCodes x = Codes.withBits("0100" + "00000100" + "00000000" + "00000001" + "11111110" + "11111111", 3, 0);
        Due.same("read()", Codes.read(x), "4");
        int[] due = {-1, 0, 1, 254, 255, -1};
        for (int i = -1; i <= 4; i++) {
            Due.same("text(" + i + ")", x.text(i), due[i + 1]);
        }
        for (int far : FAR) {
            Due.same("text(" + far + ")", x.text(far), -1);
        }
        x.write(0, 0);
        Due.same("read() of an empty text", Codes.read(x), "0");
        Due.same("text(0) of an empty text", x.text(0), -1);
        Due.same("text(-1) of an empty text", x.text(-1), -1);
    }

    private static void toldFrom0To3() {
        SquareCodes x = Codes.written("TOLD", 3, 7);
        for (int i = 0; i < 8; i++) {
            Codes.spoil(x, i, 0);
        }
        Due.same("read()", Codes.read(x), "4");
        int[] due = {-1, 3, 7, 8, 1, -1};
        for (int what = -1; what <= 4; what++) {
            Due.same("told(" + what + ")", x.told(what), due[what + 1]);
        }
        for (int far : FAR) {
            Due.same("told(" + far + ")", x.told(far), -1);
        }
    }

    private static void takenFrom0To25() {
        SquareCodes x = Codes.written("HELLO WORLD", 2, 0);
        Due.same("read()", Codes.read(x), "11");
        for (int i = -2; i <= 27; i++) {
            Due.same("taken(" + i + ")", x.taken(i), i < 0 || i > 25 ? -1 : Known.HELLO[i]);
        }
        for (int far : FAR) {
            Due.same("taken(" + far + ")", x.taken(far), -1);
        }
    }
}
