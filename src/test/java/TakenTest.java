/** Promise 11: taken. */
public final class TakenTest {
    public static void main(String[] args) {
        allBytes();
        bytesThatWerePutRight();
        others();
        Due.end();
    }

    private static void takenAre(SquareCodes x, int[] want) {
        for (int i = 0; i < 26; i++) {
            Due.same("taken(" + i + ")", x.taken(i), want[i]);
        }
    }

    private static int[] hello() {
        return new int[] {
            32, 91, 11, 120, 209, 114, 220, 77, 67, 64, 236, 17, 236,
            168, 72, 22, 82, 217, 54, 156, 0, 46, 15, 180, 122, 16};
    }

    private static void allBytes() {
        for (int mask = 0; mask < 8; mask++) {
            SquareCodes x = Codes.written("HELLO WORLD", 2, mask);
            Due.same("taken(0) before reading", x.taken(0), -1);
            x.read();
            takenAre(x, hello());
        }
    }

    private static void bytesThatWerePutRight() {
        SquareCodes x = Codes.written("HELLO WORLD", 2, 0);
        for (int i = 0; i < 6; i++) {
            Codes.spoil(x, 5 * i, i);
            x.read();
            takenAre(x, hello());
        }
        Codes.spoil(x, 24, 4);
        Due.same("read() of seven wrong bytes", Codes.read(x), "throws.IllegalArgumentException");
        takenAre(x, hello());
        x.write(3, 1);
        takenAre(x, hello());
        x.read();
        takenAre(x, Model.withChecks(Model.dataOf("", 9)));
    }

    private static void others() {
        SquareCodes x = Codes.written("HELLO WORLD", 2, 0);
        x.read();
        for (int i : new int[] {-1, 26, 27, 100, Integer.MIN_VALUE, Integer.MAX_VALUE}) {
            Due.same("taken(" + i + ")", x.taken(i), -1);
        }
    }
}
