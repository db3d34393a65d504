/** Calls of a SquareCodes whose answers, thrown ones too, are texts; and ways to set one up. */
final class Codes {
    private Codes() {
    }

    static String write(SquareCodes x, int level, int mask) {
        try {
            return "" + x.write(level, mask);
        } catch (RuntimeException e) {
            return thrown(e);
        }
    }

    static String flip(SquareCodes x, int r, int c) {
        try {
            return "" + x.flip(r, c);
        } catch (RuntimeException e) {
            return thrown(e);
        }
    }

    static String read(SquareCodes x) {
        try {
            return "" + x.read();
        } catch (RuntimeException e) {
            return thrown(e);
        }
    }

    private static String thrown(RuntimeException e) {
        return "throws." + e.getClass().getSimpleName();
    }

    static void type(SquareCodes x, String text) {
        for (char c : text.toCharArray()) {
            x.type(c);
        }
    }

    static SquareCodes written(String text, int level, int mask) {
        SquareCodes x = new SquareCodes();
        type(x, text);
        x.write(level, mask);
        return x;
    }

    /** Flips what has to be flipped to make the grid this one. */
    static void become(SquareCodes x, int[][] grid) {
        for (int r = 0; r < 21; r++) {
            int row = x.row(r);
            for (int c = 0; c < 21; c++) {
                if ((row >> (20 - c) & 1) != grid[r][c]) {
                    x.flip(r, c);
                }
            }
        }
    }

    static int[][] gridOf(SquareCodes x) {
        int[][] grid = new int[21][21];
        for (int r = 0; r < 21; r++) {
            int row = x.row(r);
            for (int c = 0; c < 21; c++) {
                grid[r][c] = row >> (20 - c) & 1;
            }
        }
        return grid;
    }

    /** The rows as texts of 1 and 0, for a look at the whole grid. */
    static String picture(SquareCodes x) {
        return picture(gridOf(x));
    }

    static String picture(int[][] grid) {
        StringBuilder picture = new StringBuilder();
        for (int r = 0; r < 21; r++) {
            picture.append(Model.line(grid, r, true)).append('\n');
        }
        return picture.toString();
    }

    /** A code whose data bytes begin with these bits, the rest being filled up as in writing. */
    static SquareCodes withBits(String bits, int level, int mask) {
        return withData(Model.filled(bits, Model.DATA[level]), level, mask);
    }

    static SquareCodes withData(int[] data, int level, int mask) {
        SquareCodes x = new SquareCodes();
        become(x, Model.gridOf(Model.withChecks(data), level, mask));
        return x;
    }

    static String readText(SquareCodes x, int count) {
        StringBuilder text = new StringBuilder();
        for (int i = 0; i < count; i++) {
            text.append((char) x.text(i));
        }
        return text.toString();
    }

    /** Turns over one bit of byte i, bit 0 being the highest. */
    static void spoil(SquareCodes x, int i, int bit) {
        int[] place = Model.dataPlaces().get(8 * i + bit);
        x.flip(place[0], place[1]);
    }
}
