/** Promise 6: row. */
public final class RowTest {
    public static void main(String[] args) {
        everyRow();
        theLowestIsColumnTwenty();
        outside();
        Due.end();
    }

    private static void everyRow() {
        SquareCodes x = Codes.written("rows", 3, 5);
        for (int r = 0; r < 21; r++) {
            int want = 0;
            for (int c = 0; c < 21; c++) {
                want = 2 * want + x.module(r, c);
            }
            Due.same("row(" + r + ")", x.row(r), want);
        }
    }

    private static void theLowestIsColumnTwenty() {
        SquareCodes x = new SquareCodes();
        x.flip(0, 20);
        x.flip(7, 0);
        x.flip(20, 19);
        x.flip(20, 20);
        Due.same("row(0)", x.row(0), 1);
        Due.same("row(7)", x.row(7), 1 << 20);
        Due.same("row(20)", x.row(20), 3);
        Due.same("row(1)", x.row(1), 0);
    }

    private static void outside() {
        SquareCodes x = Codes.written("rows", 3, 5);
        for (int r : new int[] {-1, 21, 100, -100, Integer.MIN_VALUE, Integer.MAX_VALUE}) {
            Due.same("row(" + r + ")", x.row(r), -1);
        }
    }
}
