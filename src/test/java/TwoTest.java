/** Promise 3. */
public final class TwoTest {
    private static final String LEAST = "s1" + "0".repeat(63);
    private static final String MINUS_ONE = "s" + "1".repeat(64);
    private static final String ALL = "1".repeat(64);

    public static void main(String[] args) {
        reckoning();
        dividing();
        bringingTogether();
        bitByBit();
        equality();
        order();
        truth();
        taking();
        Due.end();
    }

    private static void two(String a, int sign, String b, String want) {
        FourWords words = Due.pile("10", a, b);
        words.two(sign);
        Due.same(a + " sign " + sign + " " + b, Due.values(words), "10 " + want);
    }

    private static void reckoning() {
        two("0101", 0, "1011", "0000");
        two("0101", 0, "0011", "1000");
        two("0011", 1, "0101", "1110");
        two("0101", 1, "0011", "0010");
        two("0111", 2, "0011", "0101");
        two("s1101", 2, "s0010", "s1010");
        two(ALL, 0, "1", "0".repeat(64));
        two(ALL, 2, ALL, "0".repeat(63) + "1");
        for (int sign = 0; sign <= 4; sign++) {
            two("00x1", sign, "0001", "xxxx");
            two("0011", sign, "z", "xxxx");
            two("s0z", sign, "s001", "sxxx");
        }
    }

    private static void dividing() {
        two("1101", 3, "0011", "0100");
        two("1101", 4, "0011", "0001");
        two("s1001", 3, "s0010", "s1101");
        two("s1001", 4, "s0010", "s1111");
        two("s0111", 3, "s1110", "s1101");
        two("s0111", 4, "s1110", "s0001");
        two("s1000", 3, "s1111", "s1000");
        two("s1000", 4, "s1111", "s0000");
        two(LEAST, 3, MINUS_ONE, LEAST);
        two(LEAST, 4, MINUS_ONE, "s" + "0".repeat(64));
        two("0110", 3, "0000", "xxxx");
        two("0110", 4, "00", "xxxx");
        two("s00", 3, "s0", "sxx");
        two(ALL, 3, ALL, "0".repeat(63) + "1");
        two(ALL, 4, ALL.substring(1) + "0", "0".repeat(63) + "1");
        two(ALL.substring(1) + "0", 3, ALL, "0".repeat(64));
        two(ALL, 3, "11", "01".repeat(32));
        two(ALL, 4, "1010", "0".repeat(61) + "101");
    }

    private static void bringingTogether() {
        two("s101", 0, "s00000", "s11101");
        two("101", 0, "s00000", "00101");
        two("s101", 0, "00000", "00101");
        two("00000", 0, "s101", "00101");
        two("s00000", 1, "s101", "s00011");
        two("sx1", 5, "s1111", "sxxx1");
        two("sz1", 6, "s0000", "sxxx1");
        two("sx1", 6, "0000", "00x1");
        two("s111", 8, "s11", "s111");
        two("s111", 8, "11", "011");
    }

    private static void bitByBit() {
        String left = "0000" + "1111" + "xxxx" + "zzzz";
        String right = "01xz" + "01xz" + "01xz" + "01xz";
        two(left, 5, right, "0000" + "01xx" + "0xxx" + "0xxx");
        two(left, 6, right, "01xx" + "1111" + "x1xx" + "x1xx");
        two(left, 7, right, "01xx" + "10xx" + "xxxx" + "xxxx");
        two(left, 8, right, "10xx" + "01xx" + "xxxx" + "xxxx");
        two(ALL, 7, "x", "1".repeat(63) + "x");
    }

    /** Tells a == b, a != b, a === b and a !== b at once. */
    private static void equality(String a, String b, String want) {
        for (int i = 0; i < 4; i++) {
            two(a, 9 + i, b, want.substring(i, i + 1));
        }
    }

    private static void equality() {
        equality("1010", "1010", "1010");
        equality("1010", "1011", "0101");
        equality("10", "00", "0101");
        equality("00", "10", "0101");
        equality("11", "1z", "xx01");
        equality("1x10", "1x11", "0101");
        equality("1x10", "1x10", "xx10");
        equality("1x10", "1z10", "xx01");
        equality("1x10", "1110", "xx01");
        equality("z", "z", "xx10");
        equality("s11", "s1111", "1010");
        equality("s11", "1111", "0101");
        equality("sx", "sxxx", "xx10");
        equality("sx", "xxx", "xx01");
        equality("s1", "1", "1010");
    }

    /** Tells a < b, a <= b, a > b and a >= b at once. */
    private static void order(String a, String b, String want) {
        for (int i = 0; i < 4; i++) {
            two(a, 13 + i, b, want.substring(i, i + 1));
        }
    }

    private static void order() {
        order("0101", "0110", "1100");
        order("0110", "0101", "0011");
        order("11", "0011", "0101");
        order("s1001", "s0000010", "1100");
        order("1001", "s0000010", "0011");
        order("s1001", "s1001", "0101");
        order("s0010", "s1001", "0011");
        order("s1001", "0000010", "0011");
        order(ALL, "0", "0011");
        order(MINUS_ONE, "s0", "1100");
        order(LEAST, MINUS_ONE, "1100");
        order("0x", "11", "xxxx");
        order("00", "z1", "xxxx");
    }

    private static void truth() {
        String[] values = {"000", "0x1", "0zx", "z"};
        String both = "0000" + "01xx" + "0xxx" + "0xxx";
        String either = "01xx" + "1111" + "x1xx" + "x1xx";
        for (int i = 0; i < 16; i++) {
            two(values[i / 4], 17, values[i % 4], both.substring(i, i + 1));
            two(values[i / 4], 18, values[i % 4], either.substring(i, i + 1));
        }
        two("s10", 17, "s1", "1");
    }

    private static void taking() {
        for (int sign : new int[] {Integer.MIN_VALUE, -1, 19, Integer.MAX_VALUE}) {
            Due.bad("two(" + sign + ")", Due.pile("1", "10"), w -> w.two(sign));
            Due.bad("two(" + sign + ") of none", new FourWords(), w -> w.two(sign));
        }
        for (int i = 0; i <= 18; i++) {
            int sign = i;
            Due.state("two(" + sign + ") of one", Due.pile("s10"), w -> w.two(sign));
            Due.state("two(" + sign + ") of none", new FourWords(), w -> w.two(sign));
        }
    }
}
