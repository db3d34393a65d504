/** Promise 1: no text is typed, all modules are light, nothing was read. */
public final class NewObjectTest {
    public static void main(String[] args) {
        modulesAreLight();
        nothingWasRead();
        noTextIsTyped();
        objectsShareNothing();
        Due.end();
    }

    private static void modulesAreLight() {
        SquareCodes x = new SquareCodes();
        for (int r = 0; r < 21; r++) {
            Due.same("row(" + r + ")", x.row(r), 0);
            Due.same("module(" + r + ", " + (20 - r) + ")", x.module(r, 20 - r), 0);
        }
        Due.same("read()", Codes.read(x), "throws.IllegalStateException");
    }

    private static void nothingWasRead() {
        SquareCodes x = new SquareCodes();
        for (int i = 0; i < 4; i++) {
            Due.same("told(" + i + ")", x.told(i), -1);
        }
        for (int i = 0; i < 26; i++) {
            Due.same("taken(" + i + ")", x.taken(i), -1);
            Due.same("text(" + i + ")", x.text(i), -1);
        }
    }

    private static void noTextIsTyped() {
        SquareCodes x = new SquareCodes();
        Due.same("write(3, 0)", Codes.write(x, 3, 0), "0");
        Due.same("read()", Codes.read(x), "0");
        Due.same("taken(0)", x.taken(0), 16);
        Due.same("taken(1)", x.taken(1), 0);
        Due.same("taken(2)", x.taken(2), 0);
        Due.same("taken(3)", x.taken(3), 236);
    }

    private static void objectsShareNothing() {
        SquareCodes x = Codes.written("A", 0, 0);
        x.read();
        x.type('B');
        nothingWasRead();
        modulesAreLight();
        noTextIsTyped();
    }
}
