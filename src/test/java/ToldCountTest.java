import java.util.Arrays;

/** Promises 15 and 16. */
public final class ToldCountTest {
    public static void main(String[] args) {
        telling();
        refusing();
        counting();
        Due.end();
    }

    private static void told(String value, long... want) {
        FourWords words = Due.pile(value, "1");
        long[] got = new long[5];
        for (int what = 0; what <= 4; what++) {
            got[what] = words.told(1, what);
        }
        Due.same("told of " + value, Arrays.toString(got), Arrays.toString(want));
    }

    private static void telling() {
        told("x1z0", 0b1100, 0b1010, 4, 0, 1);
        told("sx0z0", 0b1000, 0b1010, 4, 1, 2);
        told("000", 0, 0, 3, 0, 0);
        told("s0", 0, 0, 1, 1, 0);
        told("z", 0, 1, 1, 0, 2);
        told("x", 1, 1, 1, 0, 2);
        told("s1", 1, 0, 1, 1, 1);
        told("1".repeat(64), -1, 0, 64, 0, 1);
        told("s1" + "z".repeat(63), Long.MIN_VALUE, Long.MAX_VALUE, 64, 1, 1);
        FourWords words = Due.pile("01", "10", "11");
        Due.same("told by place", words.told(0, 0) + " " + words.told(1, 0) + " " + words.told(2, 0), "3 2 1");
    }

    private static void refusing() {
        FourWords words = Due.pile("s1x", "10");
        for (int what : new int[] {Integer.MIN_VALUE, -1, 5, Integer.MAX_VALUE}) {
            Due.bad("told(0, " + what + ")", words, w -> w.told(0, what));
            Due.bad("told(-1, " + what + ")", words, w -> w.told(-1, what));
            Due.bad("told(2, " + what + ")", words, w -> w.told(2, what));
        }
        for (int i : new int[] {Integer.MIN_VALUE, -1, 2, 64, Integer.MAX_VALUE}) {
            for (int k = 0; k <= 4; k++) {
                int what = k;
                Due.state("told(" + i + ", " + what + ")", Due.pile("s1x", "10"), w -> w.told(i, what));
            }
        }
        Due.state("told(0, 0) of none", new FourWords(), w -> w.told(0, 0));
    }

    private static void counting() {
        FourWords words = Due.pile("s1x", "10000000", "1");
        Due.same("count before a text", words.count(0) + " " + words.count(1), "3 0");
        words.two(0);
        words.text(2, false);
        Due.same("count behind a text", words.count(0) + " " + words.count(1), "1 3");
        for (int what : new int[] {Integer.MIN_VALUE, -1, 2, 3, Integer.MAX_VALUE}) {
            Due.same("count(" + what + ")", words.count(what), -1);
        }
    }
}
