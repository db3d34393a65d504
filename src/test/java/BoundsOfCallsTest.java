import java.util.ArrayList;
import java.util.List;

/**
 * 'What it is': "An object is used for at most 512 calls after it has been made; what later calls
 * answer is free." Calls 511 and 512 are as good as any; of later ones nothing is asked here but
 * that they keep to rule 7 of LANGUAGE.md and throw nothing by themselves.
 */
public final class BoundsOfCallsTest {
    private static final int MOST = 512;
    private static final int SET_UP = 5;

    public static void main(String[] args) {
        oneMethodAllTheTime();
        theLastCallsOfEachMethod(MOST - 2);
        theLastCallsOfEachMethod(MOST - 1);
        everyAnswerOfALongRun();
        laterCallsThrowNothingElse();
        Due.end();
    }

    private static void oneMethodAllTheTime() {
        SquareCodes flipped = new SquareCodes();
        SquareCodes typed = new SquareCodes();
        SquareCodes written = new SquareCodes();
        SquareCodes read = new SquareCodes();
        String best = Codes.write(new SquareCodes(), 3, -1);
        for (int call = 1; call <= MOST; call++) {
            Due.same("flip(20, 0), call " + call, Codes.flip(flipped, 20, 0), "" + call % 2);
            Due.same("type('x'), call " + call, typed.type('x'), call <= 45);
            Due.same("write(3, -1), call " + call, Codes.write(written, 3, -1), best);
            Due.same("read(), call " + call, Codes.read(read), "throws.IllegalStateException");
        }
    }

    /** A text typed, written and read in five calls, and then looked at until so many are made. */
    private static SquareCodes after(int calls) {
        SquareCodes x = new SquareCodes();
        Codes.type(x, "ABC");
        x.write(1, 6);
        x.read();
        for (int call = SET_UP; call < calls; call++) {
            x.module(call % 21, call % 20);
        }
        return x;
    }

    private static void theLastCallsOfEachMethod(int before) {
        List<SquareCodes> fresh = new ArrayList<>();
        for (int i = 0; i < 14; i++) {
            fresh.add(after(before));
        }
        String call = " as call " + (before + 1);
        Due.same("type('~')" + call, fresh.get(0).type('~'), true);
        Due.same("type((char) 127)" + call, fresh.get(1).type((char) 127), false);
        Due.same("write(0, 3)" + call, Codes.write(fresh.get(2), 0, 3), "3");
        Due.same("write(4, 3)" + call, Codes.write(fresh.get(3), 4, 3), "throws.IllegalArgumentException");
        Due.same("module(13, 8)" + call, fresh.get(4).module(13, 8), 1);
        Due.same("flip(13, 8)" + call, Codes.flip(fresh.get(5), 13, 8), "0");
        Due.same("flip(21, 8)" + call, Codes.flip(fresh.get(6), 21, 8), "throws.IllegalArgumentException");
        Due.same("row(6)" + call, fresh.get(7).row(6), 0b111111101010101111111);
        Due.same("ugliness()" + call, fresh.get(8).ugliness(), after(SET_UP).ugliness());
        Due.same("read()" + call, Codes.read(fresh.get(9)), "3");
        Due.same("text(2)" + call, fresh.get(10).text(2), (int) 'C');
        Due.same("told(1)" + call, fresh.get(11).told(1), 6);
        Due.same("taken(0)" + call, fresh.get(12).taken(0), 0b00100000);
        Due.same("taken(26)" + call, fresh.get(13).taken(26), -1);
    }

    /** 64 rounds of eight calls: what is written in the last one is read as well as in the first. */
    private static void everyAnswerOfALongRun() {
        SquareCodes x = new SquareCodes();
        for (int round = 0; round < MOST / 8; round++) {
            String name = " in round " + round;
            char letter = (char) (33 + round);
            Due.same("type" + name, x.type(letter), true);
            Due.same("write" + name, Codes.write(x, round % 4, round % 8), "" + round % 8);
            Due.same("flip" + name, Codes.flip(x, 6, 10), "0");
            Due.same("read" + name, Codes.read(x), "1");
            Due.same("text" + name, x.text(0), (int) letter);
            Due.same("told(0)" + name, x.told(0), round % 4);
            Due.same("told(1)" + name, x.told(1), round % 8);
            Due.same("module" + name, x.module(6, 10), 0);
        }
    }

    private static void laterCallsThrowNothingElse() {
        SquareCodes x = after(MOST);
        for (int i = 0; i < 300; i++) {
            x.type((char) (32 + i % 95));
            Codes.write(x, i % 6 - 1, i % 11 - 2);
            Codes.flip(x, i % 23 - 1, i % 24 - 1);
            Codes.read(x);
            int looks = x.module(i, i) + x.row(i) + x.ugliness() + x.text(i) + x.told(i) + x.taken(i);
            Due.holds("looks after the 512th call end", looks > Integer.MIN_VALUE);
        }
    }
}
