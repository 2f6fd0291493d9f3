/** Promise 4. */
public final class ShiftTest {
    private static final String HUGE = "1" + "0".repeat(63);
    private static final String ALL = "1".repeat(64);

    public static void main(String[] args) {
        toTheLeft();
        toTheRight();
        highestInFront();
        unknownCount();
        taking();
        Due.end();
    }

    private static void shift(String a, int how, String n, String want) {
        FourWords words = Due.pile("z", a, n);
        words.shift(how);
        Due.same(a + " shift " + how + " by " + n, Due.values(words), "z " + want);
    }

    private static void toTheLeft() {
        for (int how = 0; how <= 2; how += 2) {
            shift("1x0z1", how, "10", "0z100");
            shift("s1x0z1", how, "1", "sx0z10");
            shift("s1x0z1", how, "0", "s1x0z1");
            shift("1111", how, "011", "1000");
            shift("1111", how, "100", "0000");
            shift("1111", how, "s11", "1000");
            shift("1111", how, HUGE, "0000");
            shift("1111", how, "s" + ALL, "0000");
            shift("11", how, "1000000", "00");
            shift("11", how, "10000001", "00");
            shift("11", how, "1" + "0".repeat(32), "00");
            shift(ALL, how, "111111", "1" + "0".repeat(63));
            shift(ALL, how, "1000000", "0".repeat(64));
        }
    }

    private static void toTheRight() {
        shift("1x0z1", 1, "10", "001x0");
        shift("s1x0z1", 1, "1", "s01x0z");
        shift("1x0z1", 3, "1", "01x0z");
        shift("s1111", 1, "100", "s0000");
        shift("1111", 3, "100", "0000");
        shift("z" + ALL.substring(1), 1, "1", "0z" + ALL.substring(2));
        shift("x" + ALL.substring(1), 3, "10", "00x" + ALL.substring(3));
        for (int how = 1; how <= 3; how += 2) {
            shift("1000", how, "s11", "0001");
            shift("1111", how, HUGE, "0000");
            shift("11", how, "1000000", "00");
            shift("11", how, "1" + "0".repeat(32), "00");
            shift(ALL, how, "111111", "0".repeat(63) + "1");
            shift(ALL, how, "1000000", "0".repeat(64));
            shift("zx", how, "0", "zx");
        }
    }

    private static void highestInFront() {
        shift("s1x0z1", 3, "1", "s11x0z");
        shift("s0x0z1", 3, "10", "s000x0");
        shift("sx0001", 3, "10", "sxxx00");
        shift("sz1001", 3, "10", "szzz10");
        shift("s1000", 3, "100", "s1111");
        shift("sz111", 3, "101", "szzzz");
        shift("sx111", 3, HUGE, "sxxxx");
        shift("s0111", 3, HUGE, "s0000");
        shift("s10", 3, "1000001", "s11");
        shift("s1" + "0".repeat(63), 3, "1000000", "s" + ALL);
        shift("s1" + "0".repeat(63), 3, "111111", "s" + ALL);
        shift("s1" + "0".repeat(63), 3, "111110", "s" + ALL.substring(1) + "0");
    }

    private static void unknownCount() {
        for (int how = 0; how <= 3; how++) {
            shift("1000", how, "x", "xxxx");
            shift("s10", how, "z0", "sxx");
            shift("s10", how, "s1x", "sxx");
        }
    }

    private static void taking() {
        for (int how : new int[] {Integer.MIN_VALUE, -1, 4, Integer.MAX_VALUE}) {
            Due.bad("shift(" + how + ")", Due.pile("1", "10"), w -> w.shift(how));
            Due.bad("shift(" + how + ") of none", new FourWords(), w -> w.shift(how));
        }
        for (int i = 0; i <= 3; i++) {
            int how = i;
            Due.state("shift(" + how + ") of one", Due.pile("s10"), w -> w.shift(how));
            Due.state("shift(" + how + ") of none", new FourWords(), w -> w.shift(how));
        }
    }
}
