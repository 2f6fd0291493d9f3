/** Promises 10, 11 and 12. */
public final class BitAsAgainTest {
    private static final String ALL = "1".repeat(64);

    public static void main(String[] args) {
        bits();
        widths();
        copies();
        Due.end();
    }

    private static void bit(String a, String i, String want) {
        FourWords words = Due.pile("s0", a, i);
        words.bit();
        Due.same("bit " + i + " of " + a, Due.values(words), "s0 " + want);
    }

    private static void bits() {
        bit("zx10", "00", "0");
        bit("zx10", "01", "1");
        bit("szx10", "10", "x");
        bit("szx10", "11", "z");
        bit("0000", "100", "x");
        bit("0000", "s11", "x");
        bit("0000", "s100", "x");
        bit("0000", "s011", "0");
        bit("0000", "x", "x");
        bit("0000", "0z", "x");
        bit("0000", "s0x", "x");
        bit("0000", "x1", "x");
        bit("0000", "1" + "0".repeat(63), "x");
        bit("0000", "s" + ALL, "x");
        bit("0000", "1" + "0".repeat(32), "x");
        bit("0000", "1000000", "x");
        bit("0" + "1".repeat(63), "111111", "0");
        bit(ALL, "1000000", "x");
        bit(ALL, "s111111", "x");
        Due.state("bit of none", new FourWords(), w -> w.bit());
        Due.state("bit of one", Due.pile("s10"), w -> w.bit());
    }

    private static void as(String a, int width, boolean signed, String want) {
        FourWords words = Due.pile("s0", a);
        words.as(width, signed);
        Due.same(a + " as " + width + " " + signed, Due.values(words), "s0 " + want);
    }

    private static void widths() {
        as("s101", 6, false, "111101");
        as("s101", 6, true, "s111101");
        as("101", 6, true, "s000101");
        as("101", 6, false, "000101");
        as("sx01", 5, false, "xxx01");
        as("sz01", 5, true, "szzz01");
        as("x01", 5, true, "s00x01");
        as("s1x0z", 2, false, "0z");
        as("1x0z", 1, true, "sz");
        as("s10", 2, false, "10");
        as("10", 2, true, "s10");
        as("s1", 64, true, "s" + ALL);
        as("1", 64, false, "0".repeat(63) + "1");
        as(ALL, 64, true, "s" + ALL);
        as("s" + ALL, 63, true, "s" + ALL.substring(1));
        for (int width : new int[] {Integer.MIN_VALUE, -1, 0, 65, Integer.MAX_VALUE}) {
            Due.bad("as(" + width + ")", Due.pile("10"), w -> w.as(width, true));
            Due.bad("as(" + width + ") of none", new FourWords(), w -> w.as(width, true));
        }
        FourWords single = Due.pile("s10");
        single.as(3, false);
        Due.same("as of a single value", Due.values(single), "110");
        Due.state("as of none", new FourWords(), w -> w.as(1, true));
    }

    private static void copies() {
        FourWords words = Due.pile("s1x", "z0", "111");
        words.again(0);
        words.again(3);
        words.again(3);
        Due.same("again", Due.values(words), "s1x z0 111 111 s1x z0");
        words.one(1);
        Due.same("a copy is another", Due.values(words), "s1x z0 111 111 s1x x1");
        for (int i : new int[] {Integer.MIN_VALUE, -1}) {
            Due.bad("again(" + i + ")", Due.pile("s1x"), w -> w.again(i));
            Due.bad("again(" + i + ") of none", new FourWords(), w -> w.again(i));
        }
        for (int i : new int[] {1, 64, Integer.MAX_VALUE}) {
            Due.state("again(" + i + ")", Due.pile("s1x"), w -> w.again(i));
        }
        Due.state("again(0) of none", new FourWords(), w -> w.again(0));
        fullPile();
    }

    private static void fullPile() {
        FourWords full = Due.pile("s10");
        for (int i = 0; i < 63; i++) {
            full.again(i);
        }
        Due.same("63 times again", full.count(0) + " " + Due.value(full, 0), "64 s10");
        String got = "";
        for (int i : new int[] {0, 63, 64, -1}) {
            try {
                full.again(i);
            } catch (IllegalStateException e) {
                got += "state ";
            } catch (IllegalArgumentException e) {
                got += "bad ";
            }
        }
        Due.same("again on a full pile", got + full.count(0), "state state state bad 64");
    }
}
