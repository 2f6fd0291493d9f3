/** Promises 7, 8 and 9. */
public final class JoinCopiesPartTest {
    private static final String ALL = "1".repeat(64);
    private static final String MOST = "x" + "z".repeat(62);

    public static void main(String[] args) {
        joining();
        copying();
        parting();
        Due.end();
    }

    private static void join(String a, String b, String want) {
        FourWords words = Due.pile("z", a, b);
        words.join();
        Due.same(a + " join " + b, Due.values(words), "z " + want);
    }

    private static void joining() {
        join("1x", "z01", "1xz01");
        join("s1x", "sz", "1xz");
        join(MOST, "1", MOST + "1");
        join("1", MOST, "1" + MOST);
        Due.state("join of none", new FourWords(), w -> w.join());
        Due.state("join of one", Due.pile(ALL), w -> w.join());
        Due.bad("join to 65 bits", Due.pile("s1", ALL), w -> w.join());
        Due.bad("join to 65 bits", Due.pile(ALL, "s1"), w -> w.join());
        Due.bad("join to 128 bits", Due.pile(ALL, ALL), w -> w.join());
    }

    private static void copies(int n, String a, String want) {
        FourWords words = Due.pile("z", a);
        words.copies(n);
        Due.same(n + " copies of " + a, Due.values(words), "z " + want);
    }

    private static void copying() {
        copies(3, "1xz0", "1xz01xz01xz0");
        copies(1, "s1x", "1x");
        copies(1, "sx", "x");
        copies(64, "sz", "z".repeat(64));
        copies(1, "s" + ALL, ALL);
        copies(2, "x" + "0".repeat(31), ("x" + "0".repeat(31)).repeat(2));
        copies(21, "10z", "10z".repeat(21));
        for (int n : new int[] {Integer.MIN_VALUE, -1, 0}) {
            Due.bad("copies(" + n + ")", Due.pile("s1"), w -> w.copies(n));
            Due.bad("copies(" + n + ") of none", new FourWords(), w -> w.copies(n));
        }
        for (int n : new int[] {1, 65, Integer.MAX_VALUE}) {
            Due.state("copies(" + n + ") of none", new FourWords(), w -> w.copies(n));
        }
        Due.bad("65 copies of a bit", Due.pile("s1"), w -> w.copies(65));
        Due.bad("22 copies of three bits", Due.pile("s10z"), w -> w.copies(22));
        Due.bad("2 copies of 33 bits", Due.pile("1".repeat(33)), w -> w.copies(2));
        // These would wrap round to few bits in an int.
        Due.bad("2^30 copies of four bits", Due.pile("1010"), w -> w.copies(1 << 30));
        Due.bad("2^30 + 1 copies of four bits", Due.pile("1010"), w -> w.copies((1 << 30) + 1));
        Due.bad("2^31 - 1 copies of 64 bits", Due.pile(ALL), w -> w.copies(Integer.MAX_VALUE));
    }

    private static void part(int h, int l, String a, String want) {
        FourWords words = Due.pile("z", a);
        words.part(h, l);
        Due.same("bits " + h + " to " + l + " of " + a, Due.values(words), "z " + want);
    }

    private static void parting() {
        part(4, 2, "01xz10", "1xz");
        part(5, 0, "s01xz10", "01xz10");
        part(0, 0, "01xz1", "1");
        part(4, 4, "sx1111", "x");
        part(63, 0, ALL, ALL);
        part(63, 63, "z" + ALL.substring(1), "z");
        part(62, 1, ALL, "1".repeat(62));
        int[][] bad = {{0, -1}, {-1, -1}, {-1, 0}, {1, 2}, {Integer.MIN_VALUE, 0}, {0, Integer.MAX_VALUE},
            {Integer.MAX_VALUE, Integer.MIN_VALUE}};
        for (int[] p : bad) {
            Due.bad("part(" + p[0] + ", " + p[1] + ")", Due.pile("s1010"), w -> w.part(p[0], p[1]));
            Due.bad("part(" + p[0] + ", " + p[1] + ") of none", new FourWords(), w -> w.part(p[0], p[1]));
        }
        for (int h : new int[] {4, 64, Integer.MAX_VALUE}) {
            Due.bad("part(" + h + ", 1) of 4 bits", Due.pile("s1010"), w -> w.part(h, 1));
            Due.bad("part(" + h + ", " + h + ") of 4 bits", Due.pile("s1010"), w -> w.part(h, h));
            Due.state("part(" + h + ", 1) of none", new FourWords(), w -> w.part(h, 1));
        }
    }
}
