/** Promise 9: text. */
public final class TextTest {
    public static void main(String[] args) {
        everyCharacter();
        allBytes();
        theLongestText();
        outside();
        aShorterTextAfterALongerOne();
        Due.end();
    }

    private static void everyCharacter() {
        for (int from = 32; from <= 126; from += 5) {
            String text = "";
            for (int c = from; c < from + 5; c++) {
                text += (char) c;
            }
            SquareCodes x = Codes.written(text, 1, 0);
            x.read();
            for (int i = 0; i < 5; i++) {
                Due.same("text(" + i + ") of " + text, x.text(i), from + i);
            }
        }
        for (char c : Model.PLAIN.toCharArray()) {
            SquareCodes x = Codes.written("" + c + c + c, 2, 0);
            x.read();
            for (int i = 0; i < 3; i++) {
                Due.same("text(" + i + ") of three " + c, x.text(i), (int) c);
            }
        }
    }

    private static void allBytes() {
        for (int b = 0; b < 256; b++) {
            SquareCodes x = Codes.withBits("0100" + "00000001" + Model.binary(b, 8), 3, 1);
            x.read();
            Due.same("text(0) of the byte " + b, x.text(0), b);
        }
    }

    private static void theLongestText() {
        String digits = "31415926535897932384626433832795028841971";
        SquareCodes x = Codes.written(digits, 0, -1);
        Due.same("read()", Codes.read(x), "41");
        Due.same("the text", Codes.readText(x, 41), digits);
        Due.same("text(41)", x.text(41), -1);
    }

    private static void outside() {
        SquareCodes x = Codes.written("AB", 0, 0);
        Due.same("text(0) before reading", x.text(0), -1);
        x.read();
        Due.same("text(1)", x.text(1), (int) 'B');
        for (int i : new int[] {-1, 2, 63, 64, 1000, Integer.MIN_VALUE, Integer.MAX_VALUE}) {
            Due.same("text(" + i + ")", x.text(i), -1);
        }
    }

    private static void aShorterTextAfterALongerOne() {
        SquareCodes x = Codes.written("LONGER", 0, 0);
        x.read();
        x.type('1');
        x.write(0, 0);
        Due.same("text(0) before the next reading", x.text(0), (int) 'L');
        x.read();
        Due.same("text(0)", x.text(0), (int) '1');
        Due.same("text(1)", x.text(1), -1);
    }
}
