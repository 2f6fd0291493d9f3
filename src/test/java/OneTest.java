/** Promise 5. */
public final class OneTest {
    private static final String ALL = "1".repeat(64);

    public static void main(String[] args) {
        minus();
        invert();
        reducing();
        taking();
        Due.end();
    }

    private static void one(int sign, String a, String want) {
        FourWords words = Due.pile("x", a);
        words.one(sign);
        Due.same("sign " + sign + " before " + a, Due.values(words), "x " + want);
    }

    private static void minus() {
        one(0, "0101", "1011");
        one(0, "s1000", "s1000");
        one(0, "s0001", "s1111");
        one(0, "0", "0");
        one(0, "01x0", "xxxx");
        one(0, "sz00", "sxxx");
        one(0, ALL, "0".repeat(63) + "1");
    }

    private static void invert() {
        one(1, "01xz", "10xx");
        one(1, "s01xz", "s10xx");
        one(1, ALL, "0".repeat(64));
    }

    /** Tells ! & ~& | ~| ^ ~^ before a at once. */
    private static void reducing(String a, String want) {
        for (int sign = 2; sign <= 8; sign++) {
            one(sign, a, want.substring(sign - 2, sign - 1));
        }
    }

    private static void reducing() {
        reducing("0", "1010101");
        reducing("1", "0101010");
        reducing("x", "xxxxxxx");
        reducing("z", "xxxxxxx");
        reducing("000", "1010101");
        reducing("111", "0101010");
        reducing("110", "0011001");
        reducing("010", "0011010");
        reducing("01x", "00110xx");
        reducing("0z", "x01xxxx");
        reducing("1z", "0xx10xx");
        reducing("s1z", "0xx10xx");
        reducing("s111", "0101010");
        reducing(ALL, "0101001");
        reducing("1" + "0".repeat(63), "0011010");
        reducing("0".repeat(64), "1010101");
    }

    private static void taking() {
        for (int sign : new int[] {Integer.MIN_VALUE, -1, 9, Integer.MAX_VALUE}) {
            Due.bad("one(" + sign + ")", Due.pile("10"), w -> w.one(sign));
            Due.bad("one(" + sign + ") of none", new FourWords(), w -> w.one(sign));
        }
        FourWords single = Due.pile("s01");
        single.one(0);
        Due.same("one of a single value", Due.values(single), "s11");
        for (int i = 0; i <= 8; i++) {
            int sign = i;
            Due.state("one(" + sign + ") of none", new FourWords(), w -> w.one(sign));
        }
    }
}
