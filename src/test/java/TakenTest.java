/** Promise 11: taken. */
public final class TakenTest {
    public static void main(String[] args) {
        allBytes();
        bytesThatWerePutRight();
        others();
        Due.end();
    }

    private static void takenAre(SquareCodes x, int[] want) {
        for (int i = 0; i < 26; i++) {
            Due.same("taken(" + i + ")", x.taken(i), want[i]);
        }
    }

    private static void allBytes() {
        for (int mask = 0; mask < 8; mask++) {
            SquareCodes x = Codes.written("HELLO WORLD", 2, mask);
            Due.same("taken(0) before reading", x.taken(0), -1);
            x.read();
            takenAre(x, Known.HELLO);
        }
    }

    private static void bytesThatWerePutRight() {
        SquareCodes x = Codes.written("HELLO WORLD", 2, 0);
        for (int i = 0; i < 6; i++) {
            Codes.spoil(x, 5 * i, i);
            x.read();
            takenAre(x, Known.HELLO);
        }
        Codes.spoil(x, 24, 4);
        Due.same("read() of seven wrong bytes", Codes.read(x), "throws.IllegalArgumentException");
        takenAre(x, Known.HELLO);
        x.write(3, 1);
        takenAre(x, Known.HELLO);
        x.read();
        takenAre(x, Model.withChecks(Model.dataOf("", 9)));
    }

    private static void others() {
        SquareCodes x = Codes.written("HELLO WORLD", 2, 0);
        x.read();
        for (int i : new int[] {-1, 26, 27, 100, Integer.MIN_VALUE, Integer.MAX_VALUE}) {
            Due.same("taken(" + i + ")", x.taken(i), -1);
        }
    }
}
