/** Promise 4: module. */
public final class ModuleTest {
    public static void main(String[] args) {
        everyModule();
        outside();
        Due.end();
    }

    private static void everyModule() {
        int[][] want = Model.gridOf(Model.withChecks(Model.dataOf("HELLO", 19)), 0, 2);
        SquareCodes x = Codes.written("HELLO", 0, 2);
        for (int r = 0; r < 21; r++) {
            for (int c = 0; c < 21; c++) {
                Due.same("module(" + r + ", " + c + ")", x.module(r, c), want[r][c]);
            }
        }
    }

    private static void outside() {
        SquareCodes x = Codes.written("HELLO", 0, 2);
        int[] wrong = {-1, 21, -21, 22, 32, 441, Integer.MIN_VALUE, Integer.MAX_VALUE};
        for (int i : wrong) {
            Due.same("module(" + i + ", 0)", x.module(i, 0), -1);
            Due.same("module(20, " + i + ")", x.module(20, i), -1);
            Due.same("module(" + i + ", " + i + ")", x.module(i, i), -1);
        }
    }
}
