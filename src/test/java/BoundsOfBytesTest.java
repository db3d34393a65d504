/**
 * 'Terms', LEVELS, FORM and BYTES: how many bytes of which sort a level has, the forms of the first
 * and last level and mask and all between, and the powers at which the bytes are 0.
 */
public final class BoundsOfBytesTest {
    public static void main(String[] args) {
        theFormStandsInBothCopies();
        dataBytesEndWhereCheckBytesBegin();
        rightAtThePowersBelowE();
        Due.end();
    }

    private static void theFormStandsInBothCopies() {
        for (int level = 0; level < 4; level++) {
            for (int mask = 0; mask < 8; mask++) {
                SquareCodes x = Codes.written("FORM", level, mask);
                String name = " copy of level " + level + " and mask " + mask;
                Due.same("the first" + name, copyOf(x, Known.FIRST_COPY), Known.FORMS[level][mask]);
                Due.same("the second" + name, copyOf(x, Known.SECOND_COPY), Known.FORMS[level][mask]);
            }
        }
    }

    private static int copyOf(SquareCodes x, int[][] places) {
        int bits = 0;
        for (int[] place : places) {
            bits = 2 * bits + x.module(place[0], place[1]);
        }
        return bits;
    }

    private static void dataBytesEndWhereCheckBytesBegin() {
        for (int level = 0; level < 4; level++) {
            SquareCodes x = Codes.written("", level, 5);
            Due.same("read() of an empty text by level " + level, Codes.read(x), "0");
            for (int i = 0; i < 26; i++) {
                Due.same("taken(" + i + ") of an empty text by level " + level, x.taken(i), Known.EMPTY_TEXT[level][i]);
            }
        }
    }

    /** These texts are not 0 at 2^e, so that the last power, 2^(e - 1), is seen to be the last one. */
    private static void rightAtThePowersBelowE() {
        for (String text : new String[] {"", "345", "POWERS", "of two"}) {
            for (int level = 0; level < 4; level++) {
                int[] bytes = Model.bytesOf(Codes.gridOf(Codes.written(text, level, 7)), 7);
                int e = Known.CHECKS[level];
                int[] sums = Model.sums(bytes, e + 1);
                for (int i = 0; i <= e; i++) {
                    Due.same("the bytes of '" + text + "' by level " + level + " are 0 at 2^" + i, sums[i] == 0, i < e);
                }
            }
        }
    }
}
