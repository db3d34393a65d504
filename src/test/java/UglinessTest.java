import java.util.Random;

/** Promise 7: ugliness. */
public final class UglinessTest {
    public static void main(String[] args) {
        oneColour();
        chessboard();
        linesInAChessboard();
        patternsThatShareModules();
        darkOnes();
        writtenGrids();
        randomGrids();
        Due.end();
    }

    private static SquareCodes with(int[][] grid) {
        SquareCodes x = new SquareCodes();
        Codes.become(x, grid);
        return x;
    }

    private static int[][] chess() {
        int[][] grid = new int[21][21];
        for (int r = 0; r < 21; r++) {
            for (int c = 0; c < 21; c++) {
                grid[r][c] = (r + c) % 2;
            }
        }
        return grid;
    }

    private static void oneColour() {
        // 42 runs of 21, 400 squares, and 4410 / 441 tens.
        int want = 42 * 19 + 400 * 3 + 100;
        Due.same("ugliness() of a light grid", new SquareCodes().ugliness(), want);
        int[][] dark = new int[21][21];
        for (int[] row : dark) {
            java.util.Arrays.fill(row, 1);
        }
        Due.same("ugliness() of a dark grid", with(dark).ugliness(), want);
    }

    private static void chessboard() {
        Due.same("ugliness() of a chessboard", with(chess()).ugliness(), 0);
    }

    /** Beginnings of a row, or ends of a column, in a chessboard; their neighbours make squares. */
    private static void linesInAChessboard() {
        String[] lines = {"0000", "1111", "00000", "11111", "000000", "10111010000", "00001011101",
            "010111010000", "0000101110100001011101", "101110100001011101", "10111010001", "1011101"};
        for (String line : lines) {
            for (int way = 0; way < 4; way++) {
                int[][] grid = chess();
                for (int i = 0; i < Math.min(21, line.length()); i++) {
                    int module = line.charAt(i) - '0';
                    if (way == 0) {
                        grid[0][i] = module;
                    } else if (way == 1) {
                        grid[20 - i][20] = module;
                    } else if (way == 2) {
                        grid[20][20 - i] = module;
                    } else {
                        grid[i][9] = module;
                    }
                }
                Due.same("ugliness() with " + line + " put way " + way,
                    with(grid).ugliness(), Model.uglinessOf(grid));
            }
        }
    }

    /** The same 1 0 1 1 1 0 1 has four light ones on both sides; a module of it turned over spoils both. */
    private static void patternsThatShareModules() {
        int[][] grid = chess();
        int[][] without = chess();
        String line = "000010111010000101010";
        for (int i = 0; i < 21; i++) {
            grid[0][i] = line.charAt(i) - '0';
            without[0][i] = i == 8 ? 0 : grid[0][i];
        }
        Due.same("ugliness() of two patterns that share modules", with(grid).ugliness(), Model.uglinessOf(grid));
        Due.same("ugliness() without them", with(without).ugliness(), Model.uglinessOf(without));
        Due.holds("each of them counts", with(grid).ugliness() - with(without).ugliness() >= 77);
    }

    /** Around each step of the tens of |20 d - 4410| / 441. */
    private static void darkOnes() {
        SquareCodes x = new SquareCodes();
        int[][] grid = new int[21][21];
        for (int i = 0; i < 440; i++) {
            int place = i * 2 % 441;
            // No object is used for more than 512 calls.
            x = i % 20 == 0 ? with(grid) : x;
            x.flip(place / 21, place % 21);
            grid[place / 21][place % 21] = 1;
            Due.same("ugliness() of " + (i + 1) + " dark ones", x.ugliness(), Model.uglinessOf(grid));
        }
    }

    private static void writtenGrids() {
        for (int level = 0; level < 4; level++) {
            for (int mask = 0; mask < 8; mask++) {
                SquareCodes x = Codes.written("UGLY", level, mask);
                Due.same("ugliness() of level " + level + " and mask " + mask,
                    x.ugliness(), Model.uglinessOf(Codes.gridOf(x)));
            }
        }
    }

    private static void randomGrids() {
        Random random = new Random(7);
        for (int n = 0; n < 400; n++) {
            int[][] grid = new int[21][21];
            int of = 2 + random.nextInt(6);
            int light = random.nextInt(2);
            for (int[] row : grid) {
                for (int c = 0; c < 21; c++) {
                    row[c] = random.nextInt(of) == 0 ? light : 1 - light;
                }
            }
            Due.same("ugliness() of random grid " + n, with(grid).ugliness(), Model.uglinessOf(grid));
        }
    }
}
