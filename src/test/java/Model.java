import java.util.ArrayList;
import java.util.List;

/**
 * The document's words as slow, plain code, written apart from the class under test: texts of bits,
 * a map of the modules, products by shifting, check bytes and wrong bytes by solving equations.
 */
final class Model {
    static final int SIDE = 21;
    static final int[] DATA = {19, 16, 13, 9};
    static final int[] CHECKS = {7, 10, 13, 17};
    static final String PLAIN = "0123456789ABCDEFGHIJKLMNOPQRSTUVWXYZ $%*+-./:";

    String typed = "";
    int[][] grid = new int[SIDE][SIDE];
    int[] text = {};
    int[] told = {-1, -1, -1, -1};
    int[] taken = {};

    // ---- the face, answers as texts

    String type(char c) {
        if (typed.length() == 45 || c < ' ' || c > '~') {
            return "false";
        }
        typed += c;
        return "true";
    }

    String write(int level, int mask) {
        if (level < 0 || level > 3 || mask < -1 || mask > 7) {
            return "throws.IllegalArgumentException";
        }
        int[] data = dataOf(typed, DATA[level]);
        typed = "";
        if (data == null) {
            return "throws.IllegalStateException";
        }
        int[] bytes = withChecks(data);
        int best = mask;
        if (mask == -1) {
            best = 0;
            for (int m = 1; m < 8; m++) {
                if (uglinessOf(gridOf(bytes, level, m)) < uglinessOf(gridOf(bytes, level, best))) {
                    best = m;
                }
            }
        }
        grid = gridOf(bytes, level, best);
        return "" + best;
    }

    String module(int r, int c) {
        return inside(r, c) ? "" + grid[r][c] : "-1";
    }

    String flip(int r, int c) {
        if (!inside(r, c)) {
            return "throws.IllegalArgumentException";
        }
        grid[r][c] = 1 - grid[r][c];
        return "" + grid[r][c];
    }

    String row(int r) {
        return inside(r, 0) ? "" + Integer.parseInt(line(grid, r, true), 2) : "-1";
    }

    String ugliness() {
        return "" + uglinessOf(grid);
    }

    String read() {
        int copy = 0;
        int found = formNear(grid, formPlaces()[0]);
        if (found < 0) {
            copy = 1;
            found = formNear(grid, formPlaces()[1]);
        }
        if (found < 0) {
            return "throws.IllegalStateException";
        }
        int level = found / 8;
        int mask = found % 8;
        int[] there = bytesOf(grid, mask);
        int[] right = nearestRight(there, CHECKS[level]);
        if (right == null) {
            return "throws.IllegalArgumentException";
        }
        int[] characters = charactersOf(right, DATA[level]);
        if (characters == null) {
            return "throws.UnsupportedOperationException";
        }
        text = characters;
        taken = right;
        told = new int[] {level, mask, differing(there, right), 1 - copy};
        return "" + text.length;
    }

    String text(int i) {
        return i >= 0 && i < text.length ? "" + text[i] : "-1";
    }

    String told(int what) {
        return what >= 0 && what < 4 ? "" + told[what] : "-1";
    }

    String taken(int i) {
        return i >= 0 && i < taken.length ? "" + taken[i] : "-1";
    }

    // ---- the grid

    static boolean inside(int r, int c) {
        return r >= 0 && r <= 20 && c >= 0 && c <= 20;
    }

    /** '1' and '0' for fixed modules, 'f' for form modules, 'd' for data modules. */
    static char[][] map() {
        char[][] map = new char[SIDE][SIDE];
        for (char[] row : map) {
            java.util.Arrays.fill(row, 'd');
        }
        for (int[] corner : new int[][] {{0, 0}, {0, 14}, {14, 0}}) {
            String[] eye = {"1111111", "1000001", "1011101", "1011101", "1011101", "1000001", "1111111"};
            for (int i = 0; i < 7; i++) {
                for (int j = 0; j < 7; j++) {
                    map[corner[0] + i][corner[1] + j] = eye[i].charAt(j);
                }
            }
        }
        for (int i = 0; i <= 7; i++) {
            map[7][i] = '0';
            map[7][13 + i] = '0';
            map[13][i] = '0';
        }
        for (int i = 0; i <= 6; i++) {
            map[i][7] = '0';
            map[i][13] = '0';
            map[14 + i][7] = '0';
        }
        for (int i = 8; i <= 12; i++) {
            map[6][i] = i % 2 == 0 ? '1' : '0';
            map[i][6] = i % 2 == 0 ? '1' : '0';
        }
        map[13][8] = '1';
        for (int[][] copy : formPlaces()) {
            for (int[] place : copy) {
                map[place[0]][place[1]] = 'f';
            }
        }
        return map;
    }

    static int[][][] formPlaces() {
        List<int[]> first = new ArrayList<>();
        for (int c = 0; c <= 5; c++) {
            first.add(new int[] {8, c});
        }
        first.add(new int[] {8, 7});
        first.add(new int[] {8, 8});
        first.add(new int[] {7, 8});
        for (int r = 5; r >= 0; r--) {
            first.add(new int[] {r, 8});
        }
        List<int[]> second = new ArrayList<>();
        for (int r = 20; r >= 14; r--) {
            second.add(new int[] {r, 8});
        }
        for (int c = 13; c <= 20; c++) {
            second.add(new int[] {8, c});
        }
        return new int[][][] {first.toArray(new int[0][]), second.toArray(new int[0][])};
    }

    static List<int[]> dataPlaces() {
        char[][] map = map();
        List<int[]> places = new ArrayList<>();
        boolean up = true;
        for (int right : new int[] {20, 18, 16, 14, 12, 10, 8, 5, 3, 1}) {
            for (int i = 0; i < SIDE; i++) {
                int r = up ? 20 - i : i;
                for (int c = right; c >= right - 1; c--) {
                    if (map[r][c] == 'd') {
                        places.add(new int[] {r, c});
                    }
                }
            }
            up = !up;
        }
        return places;
    }

    static boolean turns(int m, int r, int c) {
        int p = r * c;
        return m == 0 && (r + c) % 2 == 0
            || m == 1 && r % 2 == 0
            || m == 2 && c % 3 == 0
            || m == 3 && (r + c) % 3 == 0
            || m == 4 && (r / 2 + c / 3) % 2 == 0
            || m == 5 && p % 2 + p % 3 == 0
            || m == 6 && (p % 2 + p % 3) % 2 == 0
            || m == 7 && ((r + c) % 2 + p % 3) % 2 == 0;
    }

    static int[][] gridOf(int[] bytes, int level, int mask) {
        char[][] map = map();
        int[][] grid = new int[SIDE][SIDE];
        for (int r = 0; r < SIDE; r++) {
            for (int c = 0; c < SIDE; c++) {
                grid[r][c] = map[r][c] == '1' ? 1 : 0;
            }
        }
        String form = formBits(level, mask);
        for (int[][] copy : formPlaces()) {
            for (int i = 0; i < 15; i++) {
                grid[copy[i][0]][copy[i][1]] = form.charAt(i) - '0';
            }
        }
        StringBuilder bits = new StringBuilder();
        for (int b : bytes) {
            bits.append(binary(b, 8));
        }
        List<int[]> places = dataPlaces();
        for (int i = 0; i < places.size(); i++) {
            int r = places.get(i)[0];
            int c = places.get(i)[1];
            grid[r][c] = bits.charAt(i) - '0';
            if (turns(mask, r, c)) {
                grid[r][c] = 1 - grid[r][c];
            }
        }
        return grid;
    }

    static int[] bytesOf(int[][] grid, int mask) {
        StringBuilder bits = new StringBuilder();
        for (int[] place : dataPlaces()) {
            int module = grid[place[0]][place[1]];
            bits.append(turns(mask, place[0], place[1]) ? 1 - module : module);
        }
        int[] bytes = new int[26];
        for (int i = 0; i < 26; i++) {
            bytes[i] = Integer.parseInt(bits.substring(8 * i, 8 * i + 8), 2);
        }
        return bytes;
    }

    /** Long division of bits written out as a text. */
    static String formBits(int level, int mask) {
        String v = binary(8 * new int[] {1, 0, 3, 2}[level] + mask, 5);
        char[] rest = (v + "0000000000").toCharArray();
        String divisor = "10100110111";
        for (int i = 0; i < 5; i++) {
            if (rest[i] == '1') {
                for (int j = 0; j < divisor.length(); j++) {
                    rest[i + j] = rest[i + j] == divisor.charAt(j) ? '0' : '1';
                }
            }
        }
        String whole = v + new String(rest).substring(5);
        String turned = "101010000010010";
        StringBuilder bits = new StringBuilder();
        for (int i = 0; i < 15; i++) {
            bits.append(whole.charAt(i) == turned.charAt(i) ? '0' : '1');
        }
        return bits.toString();
    }

    /** 8 * level + mask, or -1. */
    static int formNear(int[][] grid, int[][] places) {
        for (int level = 0; level < 4; level++) {
            for (int mask = 0; mask < 8; mask++) {
                String form = formBits(level, mask);
                int differ = 0;
                for (int i = 0; i < 15; i++) {
                    if (grid[places[i][0]][places[i][1]] != form.charAt(i) - '0') {
                        differ++;
                    }
                }
                if (differ <= 3) {
                    return 8 * level + mask;
                }
            }
        }
        return -1;
    }

    static String line(int[][] grid, int i, boolean isRow) {
        StringBuilder line = new StringBuilder();
        for (int j = 0; j < SIDE; j++) {
            line.append(isRow ? grid[i][j] : grid[j][i]);
        }
        return line.toString();
    }

    static int uglinessOf(int[][] grid) {
        int sum = 0;
        int dark = 0;
        for (int i = 0; i < SIDE; i++) {
            for (int way = 0; way < 2; way++) {
                String line = line(grid, i, way == 0);
                for (String run : line.split("(?<=0)(?=1)|(?<=1)(?=0)")) {
                    sum += run.length() >= 5 ? run.length() - 2 : 0;
                }
                for (int j = 0; j < SIDE; j++) {
                    boolean eye = line.startsWith("10111010000", j) || line.startsWith("00001011101", j);
                    sum += eye ? 40 : 0;
                }
            }
            for (int j = 0; j < SIDE; j++) {
                dark += grid[i][j];
                if (i < 20 && j < 20) {
                    int four = grid[i][j] + grid[i + 1][j] + grid[i][j + 1] + grid[i + 1][j + 1];
                    sum += four == 0 || four == 4 ? 3 : 0;
                }
            }
        }
        return sum + 10 * (Math.abs(20 * dark - 4410) / 441);
    }

    // ---- the bytes

    static int times(int a, int b) {
        int product = 0;
        for (int i = 0; i < 8; i++) {
            if ((b >> i & 1) == 1) {
                product ^= a << i;
            }
        }
        for (int i = 14; i >= 8; i--) {
            if ((product >> i & 1) == 1) {
                product ^= 285 << (i - 8);
            }
        }
        return product;
    }

    static int power(int a, int n) {
        int power = 1;
        for (int i = 0; i < n; i++) {
            power = times(power, a);
        }
        return power;
    }

    static int inverse(int a) {
        for (int b = 1; b < 256; b++) {
            if (times(a, b) == 1) {
                return b;
            }
        }
        throw new IllegalArgumentException("0 has no inverse");
    }

    static int[] sums(int[] bytes, int e) {
        int[] sums = new int[e];
        for (int i = 0; i < e; i++) {
            int x = power(2, i);
            for (int j = 0; j < 26; j++) {
                sums[i] ^= times(bytes[j], power(x, 25 - j));
            }
        }
        return sums;
    }

    static boolean right(int[] bytes, int e) {
        for (int sum : sums(bytes, e)) {
            if (sum != 0) {
                return false;
            }
        }
        return true;
    }

    /** Solves the equations for as many unknowns as there are rows; null when they have no one answer. */
    static int[] solved(int[][] rows, int[] want) {
        int n = want.length;
        int[][] m = new int[n][];
        for (int i = 0; i < n; i++) {
            m[i] = java.util.Arrays.copyOf(rows[i], n + 1);
            m[i][n] = want[i];
        }
        for (int k = 0; k < n; k++) {
            int pivot = k;
            while (pivot < n && m[pivot][k] == 0) {
                pivot++;
            }
            if (pivot == n) {
                return null;
            }
            int[] swapped = m[k];
            m[k] = m[pivot];
            m[pivot] = swapped;
            int factor = inverse(m[k][k]);
            for (int j = 0; j <= n; j++) {
                m[k][j] = times(m[k][j], factor);
            }
            for (int i = 0; i < n; i++) {
                int f = m[i][k];
                for (int j = 0; j <= n && i != k; j++) {
                    m[i][j] ^= times(f, m[k][j]);
                }
            }
        }
        int[] answer = new int[n];
        for (int i = 0; i < n; i++) {
            answer[i] = m[i][n];
        }
        return answer;
    }

    static int[] withChecks(int[] data) {
        int e = 26 - data.length;
        int[] bytes = java.util.Arrays.copyOf(data, 26);
        int[] where = new int[e];
        for (int i = 0; i < e; i++) {
            where[i] = data.length + i;
        }
        return changed(bytes, where, sums(bytes, e));
    }

    /** The bytes with such changes at the places that the first sums are gone; null if there are none. */
    static int[] changed(int[] bytes, int[] where, int[] sums) {
        int n = where.length;
        int[][] rows = new int[n][n];
        for (int i = 0; i < n; i++) {
            for (int j = 0; j < n; j++) {
                rows[i][j] = power(power(2, i), 25 - where[j]);
            }
        }
        int[] change = solved(rows, java.util.Arrays.copyOf(sums, n));
        int[] answer = bytes.clone();
        for (int i = 0; i < n && change != null; i++) {
            answer[where[i]] ^= change[i];
        }
        return change == null ? null : answer;
    }

    /** By Peterson's way: for each number of wrong bytes the places are what the sums' equations say. */
    static int[] nearestRight(int[] bytes, int e) {
        if (right(bytes, e)) {
            return bytes.clone();
        }
        int[] sums = sums(bytes, e);
        for (int n = 1; n <= e / 2; n++) {
            int[][] rows = new int[n][n];
            int[] want = new int[n];
            for (int i = 0; i < n; i++) {
                want[i] = sums[i + n];
                for (int j = 0; j < n; j++) {
                    rows[i][j] = sums[i + j];
                }
            }
            int[] locator = solved(rows, want);
            int[] answer = locator == null ? null : changedByLocator(bytes, locator, sums);
            if (answer != null && right(answer, e)) {
                return answer;
            }
        }
        return null;
    }

    private static int[] changedByLocator(int[] bytes, int[] locator, int[] sums) {
        int n = locator.length;
        int[] where = new int[n];
        int found = 0;
        for (int j = 0; j < 26; j++) {
            int x = power(2, 25 - j);
            int value = power(x, n);
            for (int i = 0; i < n; i++) {
                value ^= times(locator[i], power(x, i));
            }
            if (value == 0 && found < n) {
                where[found] = j;
                found++;
            }
        }
        return found < n ? null : changed(bytes, where, sums);
    }

    static int differing(int[] a, int[] b) {
        int differ = 0;
        for (int i = 0; i < a.length; i++) {
            differ += a[i] == b[i] ? 0 : 1;
        }
        return differ;
    }

    // ---- the text

    static String binary(int value, int width) {
        String bits = Integer.toBinaryString(value);
        return "0".repeat(width - bits.length()) + bits;
    }

    static String bitsOf(String text) {
        StringBuilder bits = new StringBuilder();
        int n = text.length();
        if (text.matches("[0-9]*")) {
            bits.append("0001").append(binary(n, 10));
            for (int i = 0; i < n; i += 3) {
                String group = text.substring(i, Math.min(n, i + 3));
                bits.append(binary(Integer.parseInt(group), new int[] {0, 4, 7, 10}[group.length()]));
            }
        } else if (text.matches("[0-9A-Z $%*+./:-]*")) {
            bits.append("0010").append(binary(n, 9));
            for (int i = 0; i + 1 < n; i += 2) {
                bits.append(binary(45 * PLAIN.indexOf(text.charAt(i)) + PLAIN.indexOf(text.charAt(i + 1)), 11));
            }
            if (n % 2 == 1) {
                bits.append(binary(PLAIN.indexOf(text.charAt(n - 1)), 6));
            }
        } else {
            bits.append("0100").append(binary(n, 8));
            for (char c : text.toCharArray()) {
                bits.append(binary(c, 8));
            }
        }
        return bits.toString();
    }

    /** Null when the text does not go in. */
    static int[] dataOf(String text, int size) {
        String bits = bitsOf(text);
        return bits.length() > 8 * size ? null : filled(bits, size);
    }

    static int[] filled(String bits, int size) {
        StringBuilder all = new StringBuilder(bits);
        for (int i = 0; i < 4 && all.length() < 8 * size; i++) {
            all.append('0');
        }
        while (all.length() % 8 != 0) {
            all.append('0');
        }
        for (int i = 0; all.length() < 8 * size; i++) {
            all.append(binary(i % 2 == 0 ? 236 : 17, 8));
        }
        int[] data = new int[size];
        for (int i = 0; i < size; i++) {
            data[i] = Integer.parseInt(all.substring(8 * i, 8 * i + 8), 2);
        }
        return data;
    }

    /** Null when the bytes tell no text. */
    static int[] charactersOf(int[] bytes, int size) {
        StringBuilder all = new StringBuilder();
        for (int i = 0; i < size; i++) {
            all.append(binary(bytes[i], 8));
        }
        List<Integer> characters = new ArrayList<>();
        String bits = all.toString();
        try {
            while (bits.length() >= 4) {
                int kind = Integer.parseInt(bits.substring(0, 4), 2);
                if (kind == 0) {
                    break;
                }
                if (kind != 1 && kind != 2 && kind != 4) {
                    return null;
                }
                int width = kind == 1 ? 10 : kind == 2 ? 9 : 8;
                int count = Integer.parseInt(bits.substring(4, 4 + width), 2);
                bits = part(kind, count, bits.substring(4 + width), characters);
                if (bits == null) {
                    return null;
                }
            }
        } catch (StringIndexOutOfBoundsException missing) {
            return null;
        }
        int[] answer = new int[characters.size()];
        for (int i = 0; i < answer.length; i++) {
            answer[i] = characters.get(i);
        }
        return answer;
    }

    private static String part(int kind, int count, String bits, List<Integer> characters) {
        int at = 0;
        int left = count;
        while (left > 0) {
            int n = Math.min(left, kind == 1 ? 3 : kind == 2 ? 2 : 1);
            int width = kind == 1 ? new int[] {0, 4, 7, 10}[n] : kind == 2 ? new int[] {0, 6, 11}[n] : 8;
            int value = Integer.parseInt(bits.substring(at, at + width), 2);
            at += width;
            left -= n;
            if (kind == 4) {
                characters.add(value);
            } else if (kind == 2) {
                if (value >= (n == 2 ? 2025 : 45)) {
                    return null;
                }
                if (n == 2) {
                    characters.add((int) PLAIN.charAt(value / 45));
                }
                characters.add((int) PLAIN.charAt(value % 45));
            } else {
                String digits = "" + value;
                if (digits.length() > n) {
                    return null;
                }
                for (char c : ("0".repeat(n - digits.length()) + digits).toCharArray()) {
                    characters.add((int) c);
                }
            }
        }
        return bits.substring(at);
    }
}
