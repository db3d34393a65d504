/**
 * 'Terms', UGLINESS, each of its four parts by itself. A chessboard has no ugliness at all, and a
 * line drawn into it makes no square, so that what is due can be told by hand.
 */
public final class BoundsOfUglinessTest {
    private static final int[] LINES = {0, 10, 20};

    public static void main(String[] args) {
        runsOf4And5AndMore();
        runsAreTakenWhole();
        runsEndAtTheBorder();
        squares();
        squaresEndAtTheBorder();
        patterns();
        almostPatterns();
        patternsThatShareModules();
        patternsEndAtTheBorder();
        darkOnesAroundTheFirstSteps();
        darkOnesAroundAllSteps();
        gridsOfOneColour();
        Due.end();
    }

    /** Its corners are light: 220 dark ones. */
    private static int[][] chess() {
        int[][] grid = new int[21][21];
        for (int i = 0; i < 441; i++) {
            grid[i / 21][i % 21] = i % 2;
        }
        return grid;
    }

    private static int uglinessOf(int[][] grid) {
        SquareCodes x = new SquareCodes();
        Codes.become(x, grid);
        return x.ugliness();
    }

    /** The modules of a text into a row, or into a column, from a place on; dots stay as they are. */
    private static void draw(int[][] grid, boolean isRow, int line, int from, String modules) {
        for (int i = 0; i < modules.length(); i++) {
            if (modules.charAt(i) != '.') {
                grid[isRow ? line : from + i][isRow ? from + i : line] = modules.charAt(i) - '0';
            }
        }
    }

    /** In rows and columns, at the border and inside. */
    private static void drawn(String modules, int from, int due) {
        for (int line : LINES) {
            for (boolean isRow : new boolean[] {true, false}) {
                int[][] grid = chess();
                draw(grid, isRow, line, from, modules);
                Due.same("ugliness() with " + modules + " from " + from + " on in "
                    + (isRow ? "row " : "column ") + line, uglinessOf(grid), due);
            }
        }
    }

    /** "for every n, 5 or more, modules of one colour next to each other in a row or column ..., n - 2" */
    private static void runsOf4And5AndMore() {
        for (int n = 1; n <= 21; n++) {
            int due = n < 5 ? 0 : n - 2;
            for (String[] colours : new String[][] {{"1", "0"}, {"0", "1"}}) {
                String run = colours[0].repeat(n);
                String other = colours[1];
                drawn(n == 21 ? run : run + other, 0, due);
                drawn(n == 21 ? run : other + run, n == 21 ? 0 : 20 - n, due);
                if (n <= 19) {
                    drawn(other + run + other, (19 - n) / 2, due);
                }
            }
        }
    }

    private static void runsAreTakenWhole() {
        drawn("1111011110111101111", 1, 0);
        drawn("11111000001", 0, 3 + 3);
        drawn("011111011111011111", 2, 3 + 3 + 3);
        drawn("111111111100000000001", 0, 8 + 8);
        drawn("111110000011111000001", 0, 3 + 3 + 3 + 3);
        drawn("000001111100001111100", 0, 3 + 3 + 3);
    }

    /** The end of one line and the beginning of the next are not next to each other. */
    private static void runsEndAtTheBorder() {
        for (boolean isRow : new boolean[] {true, false}) {
            for (int line = 0; line < 20; line++) {
                int[][] grid = chess();
                draw(grid, isRow, line, 16, "01111");
                draw(grid, isRow, line + 1, 0, "11110");
                Due.same("ugliness() with four at the end of line " + line + " and at the beginning of the next",
                    uglinessOf(grid), 0);
            }
        }
    }

    private static void square(int top, int left, int height, int width, int colour, int due) {
        int[][] grid = chess();
        for (int r = top; r < top + height; r++) {
            for (int c = left; c < left + width; c++) {
                grid[r][c] = colour;
            }
        }
        Due.same("ugliness() with " + height + " by " + width + " of colour " + colour
            + " at (" + top + ", " + left + ")", uglinessOf(grid), due);
    }

    /** "for every 2 by 2 modules of one colour 3" */
    private static void squares() {
        for (int colour = 0; colour < 2; colour++) {
            for (int top = 0; top < 20; top++) {
                for (int left = 0; left < 20; left++) {
                    square(top, left, 2, 2, colour, 3);
                }
            }
            square(9, 9, 1, 2, colour, 0);
            square(9, 9, 2, 1, colour, 0);
            // Two squares, and one of the lines goes on in its own colour on both sides: a run of five.
            square(9, 9, 2, 3, colour, 6 + 3);
            square(9, 9, 3, 2, colour, 6 + 3);
        }
        // In a corner such a line goes on on one side alone, and is a run of four.
        square(0, 0, 2, 3, 0, 6);
        square(0, 0, 3, 2, 0, 6);
        square(0, 0, 3, 3, 0, 12);
        square(18, 0, 3, 3, 0, 12);
        square(0, 18, 3, 3, 0, 12);
        square(18, 18, 3, 3, 0, 12);
    }

    /** Three of a square are none, and the last and the first line have no squares between them. */
    private static void squaresEndAtTheBorder() {
        int[][] grid = chess();
        grid[0][0] = 1;
        Due.same("ugliness() with three in a corner", uglinessOf(grid), 0);
        grid[0][20] = 1;
        grid[20][0] = 1;
        grid[20][20] = 1;
        Due.same("ugliness() with four dark corners", uglinessOf(grid), 0);
        for (int i = 0; i < 20; i++) {
            int[][] across = chess();
            int[][] down = chess();
            for (int edge : new int[] {0, 20}) {
                across[i][edge] = 1;
                across[i + 1][edge] = 1;
                down[edge][i] = 1;
                down[edge][i + 1] = 1;
            }
            Due.same("ugliness() with dark ones at both ends of rows " + i + " and the next", uglinessOf(across), 0);
            Due.same("ugliness() with dark ones at both ends of columns " + i + " and the next", uglinessOf(down), 0);
        }
    }

    /** "for every 11 modules in a row or column that are ..., 40": at each of the eleven places. */
    private static void patterns() {
        for (int from = 0; from <= 10; from++) {
            drawn("10111010000" + (from < 10 ? "1" : ""), from, 40);
            drawn((from > 0 ? "1" : "") + "00001011101", from > 0 ? from - 1 : 0, 40);
        }
        drawn("0101110100001", 3, 40);
        drawn("1101110100001", 3, 40);
        drawn("1000010111010", 3, 40);
        drawn("1000010111011", 3, 40);
        // A fifth light one makes a run of five besides.
        drawn("101110100000", 3, 40 + 3);
        drawn("1000001011101", 2, 40 + 3);
    }

    /** Each of the eleven modules, turned over, spoils it; three of them make a run of five or six. */
    private static void almostPatterns() {
        int[] due = {0, 3, 0, 0, 0, 3, 4, 0, 0, 0, 0};
        for (int i = 0; i < 11; i++) {
            drawn(turned("10111010000", i) + "1", 5, due[i]);
            drawn("1" + turned("00001011101", 10 - i), 4, due[i]);
        }
        // Both with the colours changed, and with three light ones on both sides.
        drawn("01000101111", 5, 0);
        drawn("11110100010", 5, 0);
        drawn("100010111010001", 2, 0);
    }

    private static String turned(String modules, int i) {
        return modules.substring(0, i) + (modules.charAt(i) == '0' ? '1' : '0') + modules.substring(i + 1);
    }

    private static void patternsThatShareModules() {
        drawn("000010111010000", 0, 80);
        drawn("000010111010000", 6, 80);
        drawn("101110100001011101", 0, 80);
        drawn("101110100001011101", 3, 80);
        // One after the other in a line of 21, the second one short of a module.
        drawn("101110100001011101000", 0, 80);
        drawn("101110100001011101", 2, 80);
        int[][] cross = chess();
        draw(cross, true, 0, 0, "101110100001");
        draw(cross, false, 0, 0, "101110100001");
        Due.same("ugliness() with a pattern in a row and in a column", uglinessOf(cross), 80);
    }

    /** Outside of the grid nothing is light, and no line goes on in the next. */
    private static void patternsEndAtTheBorder() {
        drawn("1011101000", 11, 0);
        drawn("101110100", 12, 0);
        drawn("1011101", 14, 0);
        drawn("0001011101", 0, 0);
        drawn("001011101", 0, 0);
        drawn("1011101", 0, 0);
        for (boolean isRow : new boolean[] {true, false}) {
            for (int light = 0; light <= 3; light++) {
                int[][] grid = chess();
                draw(grid, isRow, 9, 14 - light, "1011101" + "0".repeat(light));
                draw(grid, isRow, 10, 0, "0".repeat(4 - light) + "1");
                Due.same("ugliness() with a pattern broken by the border after " + (7 + light), uglinessOf(grid), 0);
                grid = chess();
                draw(grid, isRow, 9, 16 + light, "1" + "0".repeat(4 - light));
                draw(grid, isRow, 10, 0, "0".repeat(light) + "1011101");
                Due.same("ugliness() with a pattern broken by the border after " + (4 - light), uglinessOf(grid), 0);
            }
        }
    }

    /**
     * "with d dark ones 10 times the whole part of |20 * d - 4410| / 441": single modules turned
     * over, four apart, make no run of five, no square and no pattern, only more or fewer dark ones.
     */
    private static void darkOnesAroundTheFirstSteps() {
        spread(0, 220, 242, 264, 281);
        spread(1, 220, 199, 177, 165);
    }

    /** The last counts of dark ones that add 0 and 10, and the last one that there is room for. */
    private static void spread(int odd, int start, int lastOf0, int lastOf10, int last) {
        int[][] grid = chess();
        int dark = start;
        for (int r = 0; r < 21; r += 2) {
            for (int c = r % 4 + odd; c < 21; c += 4) {
                grid[r][c] = 1 - odd;
                dark += odd == 0 ? 1 : -1;
                int far = Math.abs(dark - start);
                int due = far <= Math.abs(lastOf0 - start) ? 0 : far <= Math.abs(lastOf10 - start) ? 10 : 20;
                if (Math.abs(dark - lastOf0) <= 2 || Math.abs(dark - lastOf10) <= 2) {
                    Due.same("ugliness() with " + dark + " dark ones", uglinessOf(grid), due);
                }
            }
        }
        Due.same("how far the dark ones went", dark, last);
    }

    /** The least count of dark ones of each ten below the middle; above it they are as many light ones. */
    private static void darkOnesAroundAllSteps() {
        int[] steps = {199, 177, 155, 133, 111, 89, 67, 45, 23, 1, 0};
        for (int tens = 0; tens < 10; tens++) {
            for (int colour = 0; colour < 2; colour++) {
                Due.same("the ten that begins at " + steps[tens] + " of colour " + colour,
                    tensOf(steps[tens], colour), tens);
                Due.same("the ten that ends below " + steps[tens] + " of colour " + colour,
                    tensOf(steps[tens] - 1, colour), tens + 1);
            }
        }
    }

    /** So many modules of one colour, row by row, the rest of the other; without the other three parts. */
    private static int tensOf(int count, int colour) {
        int[][] grid = new int[21][21];
        for (int i = 0; i < 441; i++) {
            grid[i / 21][i % 21] = i < count ? colour : 1 - colour;
        }
        int rows = count / 21;
        int more = count % 21;
        int runs = 20 * 19 + (more == 0 ? 19 : run(more) + run(21 - more));
        for (int c = 0; c < 21; c++) {
            int depth = c < more ? rows + 1 : rows;
            runs += run(depth) + run(21 - depth);
        }
        int squares = 400 - squaresSpoilt(rows, more);
        return (uglinessOf(grid) - runs - 3 * squares) / 10;
    }

    private static int run(int n) {
        return n < 5 ? 0 : n - 2;
    }

    /** The squares that have both colours lie along the border between them. */
    private static int squaresSpoilt(int rows, int more) {
        int above = rows == 0 ? 0 : 20 - Math.max(0, more - 1);
        int below = more;
        return above + below;
    }

    private static void gridsOfOneColour() {
        // 42 runs of 21, 400 squares, and the whole part of 4410 / 441, which is ten.
        Due.same("ugliness() without a dark one", new SquareCodes().ugliness(), 42 * 19 + 400 * 3 + 100);
        SquareCodes x = new SquareCodes();
        x.flip(0, 0);
        // 40 runs of 21, two of 20, 399 squares, and the whole part of 4390 / 441.
        Due.same("ugliness() with one dark one", x.ugliness(), 40 * 19 + 2 * 18 + 399 * 3 + 90);
        int[][] dark = new int[21][21];
        for (int[] row : dark) {
            java.util.Arrays.fill(row, 1);
        }
        Due.same("ugliness() without a light one", uglinessOf(dark), 42 * 19 + 400 * 3 + 100);
        dark[20][20] = 0;
        Due.same("ugliness() with one light one", uglinessOf(dark), 40 * 19 + 2 * 18 + 399 * 3 + 90);
    }
}
