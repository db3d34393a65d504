/**
 * 'Terms', from THE GRID to MASK: where each sort of module begins and ends, in what order the data
 * modules come, and which of them a mask turns over. All of it is written out by hand here.
 */
public final class BoundsOfGridTest {
    /** 1 and 0: fixed, dark and light; f: a form module; d: a data module. */
    private static final String[] MAP = {
        "11111110fdddd01111111",
        "10000010fdddd01000001",
        "10111010fdddd01011101",
        "10111010fdddd01011101",
        "10111010fdddd01011101",
        "10000010fdddd01000001",
        "111111101010101111111",
        "00000000fdddd00000000",
        "ffffff1ffddddffffffff",
        "dddddd0dddddddddddddd",
        "dddddd1dddddddddddddd",
        "dddddd0dddddddddddddd",
        "dddddd1dddddddddddddd",
        "000000001dddddddddddd",
        "11111110fdddddddddddd",
        "10000010fdddddddddddd",
        "10111010fdddddddddddd",
        "10111010fdddddddddddd",
        "10111010fdddddddddddd",
        "10000010fdddddddddddd",
        "11111110fdddddddddddd"};

    /** The right column of a pair, and the first and last row of a strip of it. */
    private static final int[][] STRIPS = {
        {20, 20, 9}, {18, 9, 20}, {16, 20, 9}, {14, 9, 20}, {12, 20, 7}, {12, 5, 0},
        {10, 0, 5}, {10, 7, 20}, {8, 12, 9}, {5, 9, 12}, {3, 12, 9}, {1, 9, 12}};

    /** What each mask turns over, from row 0 and column 0 on, again and again. */
    private static final String[][] MASKS = {
        {"10", "01"},
        {"1", "0"},
        {"100"},
        {"100", "001", "010"},
        {"111000", "111000", "000111", "000111"},
        {"111111", "100000", "100100", "101010", "100100", "100000"},
        {"111111", "111000", "110110", "101010", "101101", "100011"},
        {"101010", "000111", "100011", "010101", "111000", "011100"}};

    public static void main(String[] args) {
        theGridHasRowsAndColumnsFrom0To20();
        fixedModulesEndWhereTheOthersBegin();
        thereAre208DataModules();
        theOrderOfTheDataModulesUnderEveryMask();
        whereBytesMeet();
        Due.end();
    }

    private static void theGridHasRowsAndColumnsFrom0To20() {
        SquareCodes x = Codes.written("GRID", 0, 0);
        for (int i = -1; i <= 21; i++) {
            boolean there = i != -1 && i != 21;
            for (int edge : new int[] {0, 20}) {
                Due.same("module(" + i + ", " + edge + ") is there", x.module(i, edge) != -1, there);
                Due.same("module(" + edge + ", " + i + ") is there", x.module(edge, i) != -1, there);
            }
        }
    }

    /** A fixed module is what the map says in all grids; every other one is dark in some, light in some. */
    private static void fixedModulesEndWhereTheOthersBegin() {
        int grids = 0;
        int[][] dark = new int[21][21];
        for (int level = 0; level < 4; level++) {
            for (int mask = 0; mask < 8; mask++) {
                for (String text : new String[] {"", "FIXED", "free ~"}) {
                    addDark(dark, Codes.written(text, level, mask));
                    grids++;
                }
            }
        }
        for (int r = 0; r < 21; r++) {
            for (int c = 0; c < 21; c++) {
                char sort = MAP[r].charAt(c);
                String what = "module (" + r + ", " + c + "), " + sort + ", dark in " + dark[r][c];
                boolean free = dark[r][c] > 0 && dark[r][c] < grids;
                Due.holds(what, sort == '1' ? dark[r][c] == grids : sort == '0' ? dark[r][c] == 0 : free);
            }
        }
    }

    private static void addDark(int[][] dark, SquareCodes x) {
        int[][] grid = Codes.gridOf(x);
        for (int r = 0; r < 21; r++) {
            for (int c = 0; c < 21; c++) {
                dark[r][c] += grid[r][c];
            }
        }
    }

    /** Those, and no others, make a byte wrong when they are turned over. */
    private static void thereAre208DataModules() {
        int count = 0;
        for (int r = 0; r < 21; r++) {
            SquareCodes x = Codes.written("HELLO WORLD", 2, 3);
            for (int c = 0; c < 21; c++) {
                boolean data = MAP[r].charAt(c) == 'd';
                count += data ? 1 : 0;
                x.flip(r, c);
                Due.same("read() with (" + r + ", " + c + ") turned over", Codes.read(x), "11");
                Due.same("told(2) with (" + r + ", " + c + ") turned over", x.told(2), data ? 1 : 0);
                x.flip(r, c);
            }
        }
        Due.same("how many data modules there are", count, 208);
    }

    private static int[][] places() {
        int[][] places = new int[208][];
        int next = 0;
        for (int[] strip : STRIPS) {
            int step = strip[2] > strip[1] ? 1 : -1;
            for (int r = strip[1]; r != strip[2] + step; r += step) {
                places[next++] = new int[] {r, strip[0]};
                places[next++] = new int[] {r, strip[0] - 1};
            }
        }
        return places;
    }

    private static int turned(int mask, int r, int c) {
        String line = MASKS[mask][r % MASKS[mask].length];
        return line.charAt(c % line.length()) - '0';
    }

    private static void theOrderOfTheDataModulesUnderEveryMask() {
        int[][] places = places();
        for (int mask = 0; mask < 8; mask++) {
            SquareCodes x = Codes.written("HELLO WORLD", 2, mask);
            for (int i = 0; i < 208; i++) {
                int r = places[i][0];
                int c = places[i][1];
                int bit = Known.HELLO[i / 8] >> (7 - i % 8) & 1;
                Due.same("data module " + i + " at (" + r + ", " + c + ") by mask " + mask,
                    x.module(r, c), bit ^ turned(mask, r, c));
            }
        }
    }

    /** The last module of a byte and the first of the next are two bytes, all eight of one are one. */
    private static void whereBytesMeet() {
        int[][] places = places();
        for (int i = 0; i < 26; i++) {
            SquareCodes x = Codes.written("HELLO WORLD", 2, i % 8);
            for (int bit = 0; bit < 8; bit++) {
                x.flip(places[8 * i + bit][0], places[8 * i + bit][1]);
            }
            Due.same("read() with byte " + i + " turned over", Codes.read(x), "11");
            Due.same("told(2) with byte " + i + " turned over", x.told(2), 1);
            int next = (8 * i + 8) % 208;
            x.flip(places[next][0], places[next][1]);
            Due.same("read() with the next module, too", Codes.read(x), "11");
            Due.same("told(2) with the next module, too", x.told(2), 2);
        }
    }
}
