/**
 * Whole grids, and the ugliness of a text under each mask, as another program for such codes has them
 * (python3-qrcode 7.4.2, told the level, the mask and the kind; of the ugliness, what the dark ones add
 * was worked out by the document's formula): neither the class nor the model had a hand in them.
 */
public final class KnownGridsTest {
    public static void main(String[] args) {
        known("31415926535897932384626433832795028841971", 0, 0,
            new int[] {343, 402, 431, 333, 521, 532, 398, 336}, 3,
            "1fc37f 104e41 17555d 17475d 17415d 104841 1fd57f 001700 1df3c4 07b56b 0ee090"
                + " 10b501 016279 001454 1fdd1f 10540b 175b64 174f9e 17550d 105480 1fdbcd");
        known("Square codes", 0, 4,
            new int[] {392, 393, 368, 389, 452, 474, 419, 362}, 7,
            "1fd17f 105a41 175f5d 17555d 174f5d 105541 1fd57f 000000 19c12f 1205d4 03e9d2"
                + " 0883b3 0a568b 001d1d 1fc6f2 105190 1759a0 174e57 174c10 105ca0 1fdb89");
        known("HTTP://A.B/C-D", 1, 1,
            new int[] {470, 428, 359, 435, 387, 432, 437, 545}, 2,
            "1fdc7f 104e41 17585d 17455d 17495d 105041 1fd57f 000600 146325 1d0035 10580a"
                + " 070daa 084c0b 001adb 1fd357 104a3f 174fc1 174844 1754c7 104d0d 1fdcc3");
        known("", 1, 5,
            new int[] {550, 428, 328, 482, 312, 418, 423, 599}, 4,
            "1fc67f 105141 175c5d 175f5d 17495d 104241 1fd57f 001800 105ace 179bb9 17f560"
                + " 1013e8 01dfff 001504 1fc69c 104445 17429c 1747e8 174fbb 1047ea 1fd524");
        known("HELLO WORLD", 2, 2,
            new int[] {347, 470, 506, 441, 539, 516, 314, 558}, 6,
            "1fd47f 104141 174f5d 17435d 17585d 105741 1fd57f 000300 0fed31 10bd9f 01f029"
                + " 150520 164b04 0019cb 1fd85d 1058e6 17580e 17592c 175e98 105405 1fce90");
        known("a~{|} ^_`", 2, 6,
            new int[] {323, 412, 416, 491, 433, 571, 550, 445}, 0,
            "1fc87f 105141 17405d 17505d 17585d 104541 1fd57f 001e00 0bd6da 1c89ba 0f7f8b"
                + " 1c2986 115e83 001ee2 1fc898 10515f 175060 1755c0 174bbf 105b2f 1fcd88");
        known("0123456789", 3, 3,
            new int[] {451, 472, 392, 352, 639, 497, 294, 338}, 6,
            "1fce7f 104441 174c5d 17455d 17575d 104541 1fd57f 001600 0670d0 0290cc 177802"
                + " 13053a 0751a0 001e41 1fd467 1044f1 174bfd 175b9a 175020 104d0f 1fcdda");
        known("%", 3, 7,
            new int[] {430, 419, 520, 533, 449, 519, 383, 440}, 6,
            "1fdf7f 105941 17415d 17535d 17555d 105441 1fd57f 000400 02453b 0bbfc6 025603"
                + " 05010f 065b96 0018f8 1fc8e7 104dba 17487f 17550f 174c51 104dd5 1fcddc");
        Due.end();
    }

    private static void known(String text, int level, int mask, int[] ugliness, int best, String rows) {
        isWritten(text, level, mask, rows);
        isRead(text, level, mask, rows);
        isAsUgly(text, level, ugliness);
        SquareCodes x = new SquareCodes();
        Codes.type(x, text);
        Due.same("write(" + level + ", -1) of " + text, Codes.write(x, level, -1), "" + best);
        Due.same("ugliness() of " + text + " by the best mask", x.ugliness(), ugliness[best]);
    }

    private static void isWritten(String text, int level, int mask, String rows) {
        SquareCodes x = Codes.written(text, level, mask);
        String[] due = rows.split(" ");
        Due.same("how many rows are known of " + text, due.length, 21);
        for (int r = 0; r < 21; r++) {
            Due.same("row(" + r + ") of " + text, x.row(r), Integer.parseInt(due[r], 16));
        }
    }

    private static void isRead(String text, int level, int mask, String rows) {
        SquareCodes x = new SquareCodes();
        String[] due = rows.split(" ");
        int[][] grid = new int[21][21];
        for (int r = 0; r < 21; r++) {
            for (int c = 0; c < 21; c++) {
                grid[r][c] = Integer.parseInt(due[r], 16) >> (20 - c) & 1;
            }
        }
        Codes.become(x, grid);
        Due.same("read() of " + text, Codes.read(x), "" + text.length());
        Due.same("the text read of " + text, Codes.readText(x, text.length()), text);
        Due.same("told(0) of " + text, x.told(0), level);
        Due.same("told(1) of " + text, x.told(1), mask);
        Due.same("told(2) of " + text, x.told(2), 0);
        Due.same("told(3) of " + text, x.told(3), 1);
    }

    private static void isAsUgly(String text, int level, int[] ugliness) {
        for (int mask = 0; mask < 8; mask++) {
            SquareCodes x = Codes.written(text, level, mask);
            Due.same("ugliness() of " + text + " by mask " + mask, x.ugliness(), ugliness[mask]);
        }
    }
}
