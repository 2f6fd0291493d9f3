/** Promise 2. */
public final class PushTest {
    public static void main(String[] args) {
        FourWords words = new FourWords();
        Due.same("first push", words.push(0b1100, 0b1010, 4, false), 1);
        Due.same("the four sorts", Due.value(words, 0), "x1z0");
        Due.same("second push", words.push(0b1100, 0b1010, 4, true), 2);
        Due.same("signed", Due.values(words), "x1z0 sx1z0");
        cutsToWidth();
        refuses();
        Due.end();
    }

    private static void cutsToWidth() {
        FourWords words = new FourWords();
        words.push(-1L, 0b100, 2, false);
        Due.same("bits above the width", Due.value(words, 0), "11");
        words.push(0, -1L, 1, true);
        Due.same("the least width", Due.value(words, 0), "sz");
        words.push(Long.MIN_VALUE, 1, 64, true);
        Due.same("the greatest width", Due.value(words, 0), "s1" + "0".repeat(62) + "z");
    }

    private static void refuses() {
        FourWords words = Due.pile("1");
        for (int width : new int[] {Integer.MIN_VALUE, -1, 0, 65, Integer.MAX_VALUE}) {
            Due.bad("push with width " + width, words, w -> w.push(1, 0, width, false));
        }
        FourWords full = new FourWords();
        for (int i = 1; i <= 64; i++) {
            Due.same("push " + i, full.push(i, 0, 8, false), i);
        }
        Due.same("push on a full pile", Due.thrown(full, w -> w.push(1, 0, 8, false)), "IllegalStateException");
        Due.same("bad push on a full pile", Due.thrown(full, w -> w.push(1, 0, 65, false)), "IllegalArgumentException");
        Due.same("a full pile stays", full.count(0) + " " + full.told(0, 0) + " " + full.told(63, 0), "64 64 1");
    }
}
