/** Promise 10: told. */
public final class ToldTest {
    public static void main(String[] args) {
        levelAndMask();
        bytesPutRight();
        theCopy();
        others();
        Due.end();
    }

    private static void told(SquareCodes x, int level, int mask, int putRight, int first) {
        Due.same("told(0)", x.told(0), level);
        Due.same("told(1)", x.told(1), mask);
        Due.same("told(2)", x.told(2), putRight);
        Due.same("told(3)", x.told(3), first);
    }

    private static void levelAndMask() {
        for (int level = 0; level < 4; level++) {
            for (int mask = 0; mask < 8; mask++) {
                SquareCodes x = Codes.written("T", level, mask);
                told(x, -1, -1, -1, -1);
                x.read();
                told(x, level, mask, 0, 1);
            }
        }
    }

    private static void bytesPutRight() {
        SquareCodes x = Codes.written("T", 3, 6);
        for (int i = 0; i < 8; i++) {
            // Two wrong bits of one byte count once; check bytes count, too.
            Codes.spoil(x, 3 * i + 2, 7);
            Codes.spoil(x, 3 * i + 2, 0);
            x.read();
            told(x, 3, 6, i + 1, 1);
        }
        Codes.spoil(x, 0, 0);
        Due.same("read() of nine wrong bytes", Codes.read(x), "throws.IllegalArgumentException");
        told(x, 3, 6, 8, 1);
        x.flip(0, 0);
        Codes.type(x, "T");
        x.write(1, 0);
        told(x, 3, 6, 8, 1);
        x.flip(0, 0);
        x.read();
        told(x, 1, 0, 0, 1);
    }

    private static void theCopy() {
        SquareCodes x = Codes.written("T", 1, 3);
        int[][][] places = Model.formPlaces();
        for (int i = 0; i < 3; i++) {
            x.flip(places[0][4 * i][0], places[0][4 * i][1]);
            x.read();
            told(x, 1, 3, 0, 1);
        }
        // No form is near the 15 bits 0.
        SquareCodes light = Codes.written("T", 2, 1);
        for (int[] place : places[0]) {
            if (light.module(place[0], place[1]) == 1) {
                light.flip(place[0], place[1]);
            }
        }
        for (int i = 0; i < 3; i++) {
            light.flip(places[1][5 * i][0], places[1][5 * i][1]);
            Due.same("read() by the second copy", Codes.read(light), "1");
            told(light, 2, 1, 0, 0);
        }
    }

    private static void others() {
        SquareCodes x = Codes.written("T", 1, 3);
        x.read();
        for (int what : new int[] {-1, 4, 5, 100, Integer.MIN_VALUE, Integer.MAX_VALUE}) {
            Due.same("told(" + what + ")", x.told(what), -1);
        }
    }
}
