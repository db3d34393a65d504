/** Promise 5: flip. */
public final class FlipTest {
    public static void main(String[] args) {
        everyModuleThereAndBack();
        onlyThatModule();
        outside();
        Due.end();
    }

    private static void everyModuleThereAndBack() {
        int[][] first = Codes.gridOf(Codes.written("flip me", 1, 6));
        for (int r = 0; r < 21; r++) {
            SquareCodes x = Codes.written("flip me", 1, 6);
            for (int c = 0; c < 21; c++) {
                String call = "flip(" + r + ", " + c + ")";
                Due.same(call, Codes.flip(x, r, c), "" + (1 - first[r][c]));
                Due.same("module after " + call, x.module(r, c), 1 - first[r][c]);
                Due.same(call + " again", Codes.flip(x, r, c), "" + first[r][c]);
                Due.same("module after " + call + " again", x.module(r, c), first[r][c]);
            }
        }
    }

    private static void onlyThatModule() {
        SquareCodes x = Codes.written("flip me", 1, 6);
        int[][] want = Codes.gridOf(x);
        for (int i = 0; i < 21; i++) {
            int c = i * 8 % 21;
            x.flip(i, c);
            want[i][c] = 1 - want[i][c];
        }
        Due.same("the grid", Codes.picture(x), Codes.picture(want));
    }

    private static void outside() {
        SquareCodes x = Codes.written("flip me", 1, 6);
        String before = Codes.picture(x);
        int[] wrong = {-1, 21, -21, 22, 32, 441, Integer.MIN_VALUE, Integer.MAX_VALUE};
        for (int i : wrong) {
            Due.same("flip(" + i + ", 0)", Codes.flip(x, i, 0), "throws.IllegalArgumentException");
            Due.same("flip(20, " + i + ")", Codes.flip(x, 20, i), "throws.IllegalArgumentException");
        }
        Due.same("the grid after it", Codes.picture(x), before);
    }
}
