import java.util.Random;

/** Runs of calls drawn from fixed seeds, each answer against that of the model. */
public final class RandomRunsTest {
    private static final int RUNS = 600;
    // An object is used for 512 calls at most; the look at everything in the end takes some 100.
    private static final int CALLS = 390;

    private final Random random;
    private final String name;
    private final SquareCodes x = new SquareCodes();
    private final Model model = new Model();
    private int calls = 0;

    private RandomRunsTest(int seed) {
        random = new Random(seed);
        name = "run " + seed + ": ";
    }

    public static void main(String[] args) {
        for (int seed = 0; seed < RUNS; seed++) {
            new RandomRunsTest(seed).go();
        }
        Due.end();
    }

    private void go() {
        while (hasCalls()) {
            switch (random.nextInt(10)) {
                case 0:
                case 1:
                case 2:
                    typeSome();
                    write(random.nextInt(4), random.nextInt(9) - 1);
                    break;
                case 3:
                    typeSome();
                    write(random.nextInt(7) - 1, random.nextInt(12) - 2);
                    break;
                case 4:
                    craft();
                    readAndLook();
                    break;
                case 5:
                    spoilBytes();
                    readAndLook();
                    break;
                case 6:
                    spoilForm();
                    readAndLook();
                    break;
                case 7:
                    flip(random.nextInt(24) - 1, random.nextInt(24) - 1);
                    break;
                case 8:
                    look();
                    break;
                default:
                    readAndLook();
                    break;
            }
        }
        lookAtEverything();
        Due.holds(name + "at most 512 calls", calls <= 512);
    }

    private boolean hasCalls() {
        return calls < CALLS;
    }

    private void due(String call, Object got, String want) {
        calls++;
        Due.same(name + calls + ": " + call, "" + got, want);
    }

    private void typeSome() {
        String[] letters = {"0123456789", Model.PLAIN, "abcXYZ019,;~ !", "\u001f\u007f\u0100A1"};
        String from = letters[Math.min(3, random.nextInt(10) / 3)];
        int count = random.nextInt(5) == 0 ? random.nextInt(50) : random.nextInt(20);
        for (int i = 0; i < count && hasCalls(); i++) {
            char c = from.charAt(random.nextInt(from.length()));
            due("type(" + (int) c + ")", x.type(c), model.type(c));
        }
    }

    private void write(int level, int mask) {
        due("write(" + level + ", " + mask + ")", Codes.write(x, level, mask), model.write(level, mask));
        due("row(8)", x.row(8), model.row(8));
        due("ugliness()", x.ugliness(), model.ugliness());
    }

    private void flip(int r, int c) {
        if (!hasCalls()) {
            return;
        }
        due("flip(" + r + ", " + c + ")", Codes.flip(x, r, c), model.flip(r, c));
    }

    private void flipAt(int[] place) {
        flip(place[0], place[1]);
    }

    private void spoilBytes() {
        int count = random.nextInt(11);
        for (int i = 0; i < count; i++) {
            flipAt(Model.dataPlaces().get(random.nextInt(208)));
        }
    }

    private void spoilForm() {
        int[][] copy = Model.formPlaces()[random.nextInt(2)];
        int count = random.nextInt(7);
        for (int i = 0; i < count; i++) {
            flipAt(copy[random.nextInt(15)]);
        }
    }

    /** Data bytes that no text of the face writes: several parts, and parts that are wrong. */
    private void craft() {
        int level = random.nextInt(4);
        int size = Model.DATA[level];
        StringBuilder bits = new StringBuilder();
        while (bits.length() < 8 * size && random.nextInt(6) != 0) {
            int kind = random.nextInt(12) == 0 ? random.nextInt(16) : 1 << random.nextInt(3);
            int count = random.nextInt(6);
            int width = kind == 1 ? 10 : kind == 2 ? 9 : 8;
            bits.append(Model.binary(kind, 4)).append(Model.binary(count, width));
            for (int i = 0; i < count * (kind == 1 ? 3 : kind == 2 ? 5 : 8); i++) {
                bits.append(random.nextInt(4) == 0 ? '1' : '0');
            }
        }
        bits.setLength(Math.min(bits.length(), 8 * size));
        int[] bytes = Model.withChecks(Model.filled(bits.toString(), size));
        int[][] wanted = Model.gridOf(bytes, level, random.nextInt(8));
        for (int r = 0; r < 21; r++) {
            for (int c = 0; c < 21; c++) {
                if (model.grid[r][c] != wanted[r][c]) {
                    flip(r, c);
                }
            }
        }
    }

    private void readAndLook() {
        due("read()", Codes.read(x), model.read());
        look();
    }

    private void look() {
        for (int what = -1; what <= 4; what++) {
            due("told(" + what + ")", x.told(what), model.told(what));
        }
        int i = random.nextInt(44) - 1;
        due("text(" + i + ")", x.text(i), model.text(i));
        int j = random.nextInt(28) - 1;
        due("taken(" + j + ")", x.taken(j), model.taken(j));
        int r = random.nextInt(23) - 1;
        int c = random.nextInt(23) - 1;
        due("row(" + r + ")", x.row(r), model.row(r));
        due("module(" + r + ", " + c + ")", x.module(r, c), model.module(r, c));
        due("ugliness()", x.ugliness(), model.ugliness());
    }

    private void lookAtEverything() {
        for (int r = 0; r < 21; r++) {
            due("row(" + r + ")", x.row(r), model.row(r));
        }
        for (int i = 0; i <= model.text.length; i++) {
            due("text(" + i + ")", x.text(i), model.text(i));
        }
        for (int i = 0; i < 26; i++) {
            due("taken(" + i + ")", x.taken(i), model.taken(i));
        }
    }
}
