/** Numbers of the document worked out apart from this project, to be compared with. */
final class Known {
    /** The forms by level and mask, from the standard that these codes are a part of. */
    static final int[][] FORMS = {
        {0x77C4, 0x72F3, 0x7DAA, 0x789D, 0x662F, 0x6318, 0x6C41, 0x6976},
        {0x5412, 0x5125, 0x5E7C, 0x5B4B, 0x45F9, 0x40CE, 0x4F97, 0x4AA0},
        {0x355F, 0x3068, 0x3F31, 0x3A06, 0x24B4, 0x2183, 0x2EDA, 0x2BED},
        {0x1689, 0x13BE, 0x1CE7, 0x19D0, 0x0762, 0x0255, 0x0D0C, 0x083B}};

    static final int[][] FIRST_COPY = {
        {8, 0}, {8, 1}, {8, 2}, {8, 3}, {8, 4}, {8, 5}, {8, 7}, {8, 8},
        {7, 8}, {5, 8}, {4, 8}, {3, 8}, {2, 8}, {1, 8}, {0, 8}};

    static final int[][] SECOND_COPY = {
        {20, 8}, {19, 8}, {18, 8}, {17, 8}, {16, 8}, {15, 8}, {14, 8},
        {8, 13}, {8, 14}, {8, 15}, {8, 16}, {8, 17}, {8, 18}, {8, 19}, {8, 20}};

    static final int[] DATA = {19, 16, 13, 9};
    static final int[] CHECKS = {7, 10, 13, 17};
    static final int[] MOST_WRONG = {3, 5, 6, 8};

    /** The 26 bytes of HELLO WORLD by level 2. */
    static final int[] HELLO = {
        32, 91, 11, 120, 209, 114, 220, 77, 67, 64, 236, 17, 236,
        168, 72, 22, 82, 217, 54, 156, 0, 46, 15, 180, 122, 16};

    /** The 26 bytes of an empty text: three, then 236 and 17 by turns up to the last data byte. */
    static final int[][] EMPTY_TEXT = {
        {16, 0, 0, 236, 17, 236, 17, 236, 17, 236, 17, 236, 17, 236, 17, 236, 17, 236, 17,
            142, 193, 201, 0, 4, 69, 215},
        {16, 0, 0, 236, 17, 236, 17, 236, 17, 236, 17, 236, 17, 236, 17, 236,
            98, 73, 4, 240, 177, 139, 108, 176, 198, 3},
        {16, 0, 0, 236, 17, 236, 17, 236, 17, 236, 17, 236, 17,
            30, 193, 101, 250, 78, 211, 164, 186, 198, 156, 226, 144, 6},
        {16, 0, 0, 236, 17, 236, 17, 236, 17,
            158, 160, 177, 111, 106, 128, 86, 88, 5, 167, 82, 22, 232, 31, 152, 46, 78}};

    /** For each level right bytes that are 0 but for the last data byte, 1, and the check bytes. */
    static final int[][] LEAST_RIGHT = {
        {1, 127, 122, 154, 164, 11, 68, 117},
        {1, 216, 194, 159, 111, 199, 94, 95, 113, 157, 193},
        {1, 137, 73, 227, 17, 177, 17, 52, 13, 46, 43, 83, 132, 120},
        {1, 119, 66, 83, 120, 119, 22, 197, 83, 249, 41, 143, 134, 85, 53, 125, 99, 79}};

    private Known() {
    }

    /** 8 * level + mask of the form that differs from the bits in 3 at most; -1 if there is none. */
    static int formNear(int bits) {
        for (int i = 0; i < 32; i++) {
            if (Integer.bitCount(FORMS[i / 8][i % 8] ^ bits) <= 3) {
                return i;
            }
        }
        return -1;
    }
}
