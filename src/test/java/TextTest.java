/** Promises 13 and 14. */
public final class TextTest {
    private static final String ALL = "1".repeat(64);

    public static void main(String[] args) {
        bits();
        fours();
        numbers();
        unknownNumbers();
        letters();
        taking();
        Due.end();
    }

    private static void text(int form, String a, String want, String wantBrief) {
        text(form, false, a, want);
        text(form, true, a, wantBrief);
    }

    private static void text(int form, boolean brief, String a, String want) {
        FourWords words = Due.pile("s10", a);
        String call = "text(" + form + ", " + brief + ") of " + a;
        Due.same(call, words.text(form, brief), want.length());
        Due.same(call + " writes", Due.text(words), want);
        Due.same(call + " leaves", Due.values(words), "s10");
    }

    private static void bits() {
        text(0, "0010", "0010", "10");
        text(0, "s00xz1", "00xz1", "xz1");
        text(0, "00z0", "00z0", "z0");
        text(0, "0", "0", "0");
        text(0, "0000", "0000", "0");
        text(0, "1", "1", "1");
        text(0, ALL, ALL, ALL);
        text(0, "0".repeat(64), "0".repeat(64), "0");
    }

    private static void fours() {
        text(1, "00000001" + "00100011", "0123", "123");
        text(1, "0100010101100111" + "1000100110101011" + "1100110111101111", "456789abcdef", "456789abcdef");
        text(1, "0", "0", "0");
        text(1, "00000", "00", "0");
        text(1, "10000", "10", "10");
        text(1, "s11111", "1f", "1f");
        text(1, "xxxx" + "zzzz" + "x01z" + "1z10" + "zzzx" + "xxx0", "xzXZXX", "xzXZXX");
        text(1, "0000" + "0000" + "0x00", "00X", "X");
        text(1, "x" + "0000", "x0", "x0");
        text(1, "zz" + "0000", "z0", "z0");
        text(1, "xxx" + "1111", "xf", "xf");
        text(1, "z1" + "1111", "Zf", "Zf");
        text(1, "xz" + "1111", "Xf", "Xf");
        text(1, ALL, "f".repeat(16), "f".repeat(16));
        text(1, "0".repeat(64), "0".repeat(16), "0");
    }

    private static void numbers() {
        text(2, "0", "0", "0");
        text(2, "1", "1", "1");
        text(2, "111", "7", "7");
        text(2, "0000", " 0", "0");
        text(2, "1010", "10", "10");
        text(2, "00000111", "  7", "7");
        text(2, "11111111", "255", "255");
        text(2, "s0", " 0", "0");
        text(2, "s1", "-1", "-1");
        text(2, "s1000", "-8", "-8");
        text(2, "s0111", " 7", "7");
        text(2, "s10000", "-16", "-16");
        text(2, "s00101", "  5", "5");
        text(2, "s11111011", "  -5", "-5");
        text(2, "s10000000", "-128", "-128");
        text(2, ALL, "18446744073709551615", "18446744073709551615");
        text(2, "1" + "0".repeat(63), " 9223372036854775808", "9223372036854775808");
        text(2, "s1" + "0".repeat(63), "-9223372036854775808", "-9223372036854775808");
        text(2, "s0" + "1".repeat(63), " 9223372036854775807", "9223372036854775807");
        text(2, "s" + ALL, " ".repeat(18) + "-1", "-1");
        text(2, "0".repeat(64), " ".repeat(19) + "0", "0");
        text(2, "1".repeat(63), "9223372036854775807", "9223372036854775807");
        text(2, "s0" + "0".repeat(62), " ".repeat(19) + "0", "0");
    }

    private static void unknownNumbers() {
        text(2, "x", "x", "x");
        text(2, "z", "z", "z");
        text(2, "sx", " x", "x");
        text(2, "xxxx", " x", "x");
        text(2, "szzzzzzzz", "   z", "z");
        text(2, "1zzzzzxz", "  X", "X");
        text(2, "szzzx", " X", "X");
        text(2, "000z", " Z", "Z");
        text(2, "z1", "Z", "Z");
        text(2, "x".repeat(64), " ".repeat(19) + "x", "x");
        text(2, "s" + "z".repeat(64), " ".repeat(19) + "z", "z");
        text(2, "z" + "0".repeat(63), " ".repeat(19) + "Z", "Z");
    }

    private static void letters() {
        FourWords words = Due.pile("1", "x01z");
        words.text(0, true);
        Due.same("letter(0)", words.letter(0), (int) 'x');
        Due.same("letter(3)", words.letter(3), (int) 'z');
        words.text(0, true);
        Due.same("a shorter text", Due.text(words), "1");
        for (int i : new int[] {Integer.MIN_VALUE, -1, 1, 3, 64, Integer.MAX_VALUE}) {
            Due.index("letter(" + i + ") of one", words, w -> w.letter(i));
        }
    }

    private static void taking() {
        FourWords words = Due.pile("s10", "110");
        words.text(2, true);
        for (int form : new int[] {Integer.MIN_VALUE, -1, 3, Integer.MAX_VALUE}) {
            Due.bad("text(" + form + ")", words, w -> w.text(form, false));
            Due.bad("text(" + form + ") of none", new FourWords(), w -> w.text(form, true));
        }
        words.text(2, true);
        for (int i = 0; i <= 2; i++) {
            int form = i;
            Due.state("text(" + form + ") of none", words, w -> w.text(form, false));
        }
        Due.same("the text stays", Due.text(words), "-2");
    }
}
