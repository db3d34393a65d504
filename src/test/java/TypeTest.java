/** Promise 2: type. */
public final class TypeTest {
    public static void main(String[] args) {
        onlyCharactersFrom32To126();
        onlyFortyFive();
        refusedOnesAddNothing();
        writingMakesRoom();
        Due.end();
    }

    private static void onlyCharactersFrom32To126() {
        for (int c = 0; c < 65536; c += c < 300 || c >= 65500 ? 1 : 97) {
            Due.same("type(" + c + ")", new SquareCodes().type((char) c), c >= 32 && c <= 126);
        }
    }

    private static void onlyFortyFive() {
        SquareCodes x = new SquareCodes();
        for (int i = 1; i <= 48; i++) {
            Due.same("type('7'), call " + i, x.type('7'), i <= 45);
        }
    }

    private static void refusedOnesAddNothing() {
        SquareCodes x = new SquareCodes();
        x.type('a');
        x.type((char) 31);
        x.type((char) 127);
        x.type((char) 256);
        x.type((char) ('b' + 256));
        x.type('~');
        x.type(' ');
        x.write(2, 1);
        Due.same("read()", Codes.read(x), "3");
        Due.same("the text", Codes.readText(x, 3), "a~ ");
    }

    private static void writingMakesRoom() {
        SquareCodes x = new SquareCodes();
        Codes.type(x, "1".repeat(45));
        Due.same("write(9, 0) of 45 digits", Codes.write(x, 9, 0), "throws.IllegalArgumentException");
        Due.same("type after that", x.type('1'), false);
        Due.same("write(0, 0) of 45 digits", Codes.write(x, 0, 0), "throws.IllegalStateException");
        Due.same("type after that", x.type('1'), true);
        Due.same("write(0, 0)", Codes.write(x, 0, 0), "0");
        for (int i = 1; i <= 46; i++) {
            Due.same("type after writing, call " + i, x.type('z'), i <= 45);
        }
    }
}
