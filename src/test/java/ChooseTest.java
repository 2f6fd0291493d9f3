/** Promise 6. */
public final class ChooseTest {
    public static void main(String[] args) {
        choose("1", "01xz", "1111", "01xz");
        choose("0", "01xz", "1zx0", "1zx0");
        choose("x1z", "10", "01", "10");
        choose("s0z", "0011", "0101", "0xx1");
        choose("x", "0000" + "1111" + "xxxx" + "zzzz", "01xz01xz01xz01xz", "0xxx" + "x1xx" + "xxxx" + "xxxx");
        choose("1", "s10", "s0000", "s1110");
        choose("1", "s10", "0000", "0010");
        choose("1", "10", "s0000", "0010");
        choose("0", "s0000", "sz0", "szzz0");
        choose("0", "0000", "sz0", "00z0");
        choose("z", "s10", "s0110", "sx110");
        choose("1", "1", "0".repeat(64), "0".repeat(63) + "1");
        choose("0", "1".repeat(64), "s1", "0".repeat(63) + "1");
        Due.state("choose of none", new FourWords(), w -> w.choose());
        Due.state("choose of one", Due.pile("s1"), w -> w.choose());
        Due.state("choose of two", Due.pile("1", "s1010"), w -> w.choose());
        Due.end();
    }

    private static void choose(String c, String a, String b, String want) {
        FourWords words = Due.pile("s01", c, a, b);
        words.choose();
        Due.same(c + " ? " + a + " : " + b, Due.values(words), "s01 " + want);
    }
}
