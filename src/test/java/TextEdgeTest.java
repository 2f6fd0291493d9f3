import java.math.BigInteger;

/** The sentences of promises 13 to 16 that name a boundary case, a test for each, in their order. */
public final class TextEdgeTest {
    private static final String[] SORTS = {"0", "1", "x", "z"};

    public static void main(String[] args) {
        Due.holds("form 0 .. 1 .. 2", TextEdgeTest::forms);
        Due.holds("form 0: all bits, x and z", TextEdgeTest::allBits);
        Due.holds("1: by fours (all x: x, all z: z, else with an x: X, with a z: Z)", TextEdgeTest::byFours);
        Due.holds("what's above WIDTH isn't there", TextEdgeTest::aboveWidth);
        Due.holds("2: without x or z its digits", TextEdgeTest::digits);
        Due.holds("- before them if it's signed and negative", TextEdgeTest::negative);
        Due.holds("with spaces before up to as many as 2^WIDTH - 1 has digits", TextEdgeTest::spaces);
        Due.holds("(signed: as 2^(WIDTH - 1) - 1, and one more)", TextEdgeTest::spacesOfSigned);
        Due.holds("with all x: x, all z: z, some x: X, else Z, likewise", TextEdgeTest::unsureNumbers);
        Due.holds("brief: no spaces", TextEdgeTest::briefNumbers);
        Due.holds("and of forms 0, 1 no zeros at the beginning, but the last place (form 0)", TextEdgeTest::briefBits);
        Due.holds("and of forms 0, 1 no zeros at the beginning, but the last place (form 1)", TextEdgeTest::briefFours);
        Due.holds("Answers its length.", TextEdgeTest::lengths);
        Due.holds("Takes a; TEXT is: (it is written by text alone)", TextEdgeTest::textStays);
        Due.holds("Byte i of TEXT.", TextEdgeTest::letters);
        Due.holds("Not there: IndexOutOfBoundsException.", TextEdgeTest::lettersNotThere);
        Due.holds("Of the VALUE that has i others above it: the bits that are 1 or x (what 0), that are x or z (1)",
            TextEdgeTest::toldBits);
        Due.holds("its WIDTH (2), 1 if it's signed, else 0 (3)", TextEdgeTest::toldWidthAndSign);
        Due.holds("1 TRUE, 0 FALSE, 2 x (4)", TextEdgeTest::toldTruth);
        Due.holds("what not 0 .. 4: bad; then, i not there (below 0, too): IllegalStateException.",
            TextEdgeTest::toldRefused);
        Due.holds("VALUES on the PILE (0), TEXT's length (1)", TextEdgeTest::counts);
        Due.holds("else -1", TextEdgeTest::countsElse);
        Due.end();
    }

    private static String row(int width, String sort) {
        return sort.repeat(width);
    }

    private static String firstAnd(String first, int width, String rest) {
        return first + rest.repeat(width - 1);
    }

    private static String lastAnd(String last, int width, String rest) {
        return rest.repeat(width - 1) + last;
    }

    private static BigInteger power(int of2) {
        return BigInteger.ONE.shiftLeft(of2);
    }

    private static String padded(Object number, int columns) {
        String digits = number.toString();
        return " ".repeat(columns - digits.length()) + digits;
    }

    private static void forms() {
        for (int form : new int[] {Integer.MIN_VALUE, -1, 3, 4, Integer.MAX_VALUE}) {
            for (boolean brief : new boolean[] {false, true}) {
                FourWords words = Due.pile("s1", "0x");
                words.text(0, false);
                Due.bad("text(" + form + ", " + brief + ")", words, w -> w.text(form, brief));
                Due.bad("text(" + form + ", " + brief + ") of none", new FourWords(), w -> w.text(form, brief));
            }
        }
        for (int i = 0; i <= 2; i++) {
            int form = i;
            FourWords words = Due.pile("z1x");
            words.text(0, false);
            Due.state("text(" + form + ", false) of none", words, w -> w.text(form, false));
            Due.state("text(" + form + ", true) of none", words, w -> w.text(form, true));
        }
    }

    private static void allBits() {
        for (int width = 1; width <= 64; width++) {
            for (String sort : SORTS) {
                for (String rest : SORTS) {
                    String bits = firstAnd(sort, width, rest);
                    Phrase.writes(bits, 0, false, bits);
                    Phrase.writes("s" + bits, 0, false, bits);
                }
            }
        }
    }

    private static void byFours() {
        for (int four = 0; four < 256; four++) {
            String bits = SORTS[four >> 6 & 3] + SORTS[four >> 4 & 3] + SORTS[four >> 2 & 3] + SORTS[four & 3];
            String letter = bits.contains("x") ? "X" : bits.contains("z") ? "Z" : "";
            if (letter.isEmpty()) {
                letter = Integer.toHexString(Integer.parseInt(bits, 2));
            }
            letter = bits.equals("xxxx") ? "x" : bits.equals("zzzz") ? "z" : letter;
            Phrase.writes(bits, 1, false, letter);
            Phrase.writes("1" + bits, 1, false, "1" + letter);
            Phrase.writes("s" + bits + row(60, "0"), 1, false, letter + row(15, "0"));
            Phrase.writes(row(60, "0") + bits, 1, false, row(15, "0") + letter);
        }
    }

    private static void aboveWidth() {
        for (int width = 1; width <= 64; width++) {
            int fours = (width + 3) / 4;
            int rest = (width + 3) % 4 + 1;
            for (String sort : new String[] {"x", "z"}) {
                Phrase.writes(row(width, sort), 1, row(fours, sort), row(fours, sort));
                Phrase.writes(row(rest, sort) + row(width - rest, "0"), 1, false, firstAnd(sort, fours, "0"));
                if (rest > 1) {
                    String mixed = sort + row(rest - 1, "0") + row(width - rest, "0");
                    Phrase.writes(mixed, 1, false, firstAnd(sort.toUpperCase(), fours, "0"));
                }
            }
            String first = Integer.toHexString((1 << rest) - 1);
            Phrase.writes("s" + row(width, "1"), 1, false, firstAnd(first, fours, "f"));
            Phrase.writes(row(width, "0"), 1, false, row(fours, "0"));
        }
    }

    private static void digits() {
        for (int width = 1; width <= 64; width++) {
            String greatest = power(width).subtract(BigInteger.ONE).toString();
            Phrase.writes(row(width, "1"), 2, greatest, greatest);
            String highest = power(width - 1).toString();
            Phrase.writes(firstAnd("1", width, "0"), 2, padded(highest, greatest.length()), highest);
        }
        // Each power of ten and the number before it, where the count of digits changes.
        BigInteger ten = BigInteger.TEN;
        for (int i = 1; i <= 19; i++) {
            for (BigInteger number : new BigInteger[] {ten.subtract(BigInteger.ONE), ten}) {
                String bits = number.toString(2);
                Phrase.writes(row(64 - bits.length(), "0") + bits, 2, padded(number, 20), number.toString());
            }
            ten = ten.multiply(BigInteger.TEN);
        }
    }

    private static void negative() {
        for (int width = 1; width <= 64; width++) {
            int columns = power(width - 1).subtract(BigInteger.ONE).toString().length() + 1;
            String least = "-" + power(width - 1);
            Phrase.writes("s" + firstAnd("1", width, "0"), 2, padded(least, columns), least);
            Phrase.writes("s" + row(width, "1"), 2, padded("-1", columns), "-1");
            Phrase.writes("s" + row(width, "0"), 2, padded("0", columns), "0");
        }
        Phrase.writes("1", 2, "1", "1");
        Phrase.writes("s1", 2, "-1", "-1");
        Phrase.writes(row(64, "1"), 2, "18446744073709551615", "18446744073709551615");
    }

    private static void spaces() {
        for (int width = 1; width <= 64; width++) {
            int columns = power(width).subtract(BigInteger.ONE).toString().length();
            Phrase.writes(row(width, "0"), 2, false, padded("0", columns));
            Phrase.writes(lastAnd("1", width, "0"), 2, false, padded("1", columns));
        }
    }

    private static void spacesOfSigned() {
        for (int width = 1; width <= 64; width++) {
            BigInteger greatest = power(width - 1).subtract(BigInteger.ONE);
            int columns = greatest.toString().length() + 1;
            Phrase.writes("s" + firstAnd("0", width, "1"), 2, " " + greatest, greatest.toString());
            Phrase.writes("s" + row(width, "0"), 2, false, padded("0", columns));
            Phrase.writes("s" + row(width, "1"), 2, false, padded("-1", columns));
        }
    }

    private static void unsureNumbers() {
        for (int width = 1; width <= 64; width++) {
            int plain = power(width).subtract(BigInteger.ONE).toString().length();
            int signed = power(width - 1).subtract(BigInteger.ONE).toString().length() + 1;
            unsure(row(width, "x"), "x", plain, signed);
            unsure(row(width, "z"), "z", plain, signed);
            if (width > 1) {
                for (String rest : new String[] {"0", "1", "z"}) {
                    unsure(firstAnd("x", width, rest), "X", plain, signed);
                    unsure(lastAnd("x", width, rest), "X", plain, signed);
                }
                for (String rest : new String[] {"0", "1"}) {
                    unsure(firstAnd("z", width, rest), "Z", plain, signed);
                    unsure(lastAnd("z", width, rest), "Z", plain, signed);
                    unsure(firstAnd(rest, width, "z"), "Z", plain, signed);
                    unsure(firstAnd(rest, width, "x"), "X", plain, signed);
                }
            }
        }
    }

    private static void unsure(String bits, String letter, int plain, int signed) {
        Phrase.writes(bits, 2, padded(letter, plain), letter);
        Phrase.writes("s" + bits, 2, padded(letter, signed), letter);
    }

    private static void briefNumbers() {
        for (int width = 1; width <= 64; width++) {
            Phrase.writes(row(width, "0"), 2, true, "0");
            Phrase.writes("s" + row(width, "1"), 2, true, "-1");
            Phrase.writes(row(width, "z"), 2, true, "z");
            if (width > 1) {
                Phrase.writes("s" + lastAnd("x", width, "0"), 2, true, "X");
            }
        }
    }

    private static void briefBits() {
        for (int width = 1; width <= 64; width++) {
            Phrase.writes(row(width, "0"), 0, true, "0");
            for (String sort : new String[] {"1", "x", "z"}) {
                for (int i = 0; i < width; i++) {
                    String kept = firstAnd(sort, i + 1, "0");
                    Phrase.writes(row(width - 1 - i, "0") + kept, 0, true, kept);
                }
            }
        }
    }

    private static void briefFours() {
        for (int width = 1; width <= 64; width++) {
            Phrase.writes(row(width, "0"), 1, true, "0");
            for (int i = 0; i < width; i++) {
                int behind = i / 4;
                String digit = Integer.toString(1 << i % 4);
                String one = row(width - 1 - i, "0") + firstAnd("1", i + 1, "0");
                Phrase.writes(one, 1, true, firstAnd(digit, behind + 1, "0"));
                boolean alone = i % 4 == 0 && i == width - 1;
                String x = row(width - 1 - i, "0") + firstAnd("x", i + 1, "0");
                Phrase.writes(x, 1, true, firstAnd(alone ? "x" : "X", behind + 1, "0"));
                String z = row(width - 1 - i, "0") + firstAnd("z", i + 1, "0");
                Phrase.writes(z, 1, true, firstAnd(alone ? "z" : "Z", behind + 1, "0"));
            }
        }
    }

    private static void lengths() {
        FourWords words = Due.pile("01", "s1x", "0", row(64, "z"));
        Due.same("the longest text", words.text(0, false), 64);
        Due.same("the shortest text", words.text(2, true), 1);
        Due.same("a short text behind a long one", Due.state(words), "01 s1x \"0\"");
        Due.same("a text of two", words.text(0, false), 2);
        Due.same("a text of the last value", words.text(2, true), 1);
        Due.same("a text of none", Due.thrown(words, w -> w.text(0, false)), "IllegalStateException");
        Due.same("the text is still that of the last", Due.state(words), " \"1\"");
    }

    private static void textStays() {
        FourWords words = Due.pile("x10z");
        words.text(0, false);
        words.push(5, 0, 3, false);
        words.again(0);
        words.two(0);
        words.one(1);
        words.as(8, true);
        words.copies(2);
        words.part(7, 0);
        words.again(0);
        words.join();
        words.push(1, 0, 1, false);
        words.shift(0);
        words.push(1, 0, 1, false);
        words.bit();
        words.again(0);
        words.again(0);
        words.choose();
        Due.same("told", words.told(0, 2), 1L);
        Due.thrown(words, w -> w.letter(4));
        Due.same("the text behind other calls", Due.text(words), "x10z");
    }

    private static void letters() {
        FourWords words = Due.pile("01xz", "s" + firstAnd("1", 64, "x"), "s1000", "s00101", "1111x00z");
        words.text(1, false);
        Due.same("fX", (char) words.letter(0) + "" + (char) words.letter(1), "fX");
        words.text(2, false);
        Due.same("two spaces and 5", words.letter(0) + " " + words.letter(1) + " " + words.letter(2), "32 32 53");
        words.text(2, true);
        Due.same("-8", words.letter(0) + " " + words.letter(1), "45 56");
        words.text(0, false);
        String three = words.letter(0) + " " + words.letter(1) + " " + words.letter(63);
        Due.same("the first, the second and the 64th", three, "49 120 120");
        words.text(0, false);
        String four = words.letter(0) + " " + words.letter(1) + " " + words.letter(2) + " " + words.letter(3);
        Due.same("01xz", four, "48 49 120 122");
        Due.same("01xz once more", words.letter(0), 48);
    }

    private static void lettersNotThere() {
        for (int length : new int[] {0, 1, 2, 63, 64}) {
            FourWords words = Due.pile("s0", row(64, "1"));
            if (length > 0) {
                // Leaves letters behind the end of the shorter text that follows.
                words.text(0, false);
                words.push(-1L, -1L, length, false);
                words.text(0, false);
                Due.same("the last letter", words.letter(length - 1), (int) 'x');
            }
            for (int i : new int[] {Integer.MIN_VALUE, -64, -1, length, length + 1, 65, 256, Integer.MAX_VALUE}) {
                String thrown = Due.thrown(words, w -> w.letter(i));
                Due.same("letter(" + i + ") of " + length, thrown, "IndexOutOfBoundsException");
            }
            Due.same("the length stays", words.count(1), length);
        }
    }

    private static void toldBits() {
        for (int i = 0; i < 64; i++) {
            String front = row(63 - i, "0");
            String behind = row(i, "0");
            FourWords words = new FourWords();
            for (String sort : SORTS) {
                Due.put(words, front + sort + behind);
            }
            long bit = 1L << i;
            long[][] wants = {{0, bit}, {bit, bit}, {bit, 0}, {0, 0}};
            for (int k = 0; k < 4; k++) {
                Due.same("told(" + k + ", 0)", words.told(k, 0), wants[k][0]);
                Due.same("told(" + k + ", 1)", words.told(k, 1), wants[k][1]);
            }
        }
        FourWords full = new FourWords();
        for (int i = 0; i < 64; i++) {
            full.push(i + 1, i, 64, false);
        }
        for (int i = 0; i < 64; i++) {
            Due.same("told(" + i + ", ..) of 64", full.told(i, 0) + " " + full.told(i, 1), (64 - i) + " " + (63 - i));
        }
    }

    private static void toldWidthAndSign() {
        for (int width = 1; width <= 64; width++) {
            for (String sort : SORTS) {
                FourWords words = Due.pile(row(width, sort), "s" + row(width, sort));
                Due.same("told(.., 2)", words.told(0, 2) + " " + words.told(1, 2), width + " " + width);
                Due.same("told(.., 3)", words.told(0, 3) + " " + words.told(1, 3), "1 0");
            }
        }
    }

    private static void toldTruth() {
        for (int width = 1; width <= 64; width++) {
            FourWords words = Due.pile(row(width, "0"), "s" + row(width, "0"), firstAnd("1", width, "x"),
                lastAnd("1", width, "z"), "s" + firstAnd("x", width, "0"), lastAnd("z", width, "0"), row(width, "x"),
                row(width, "z"));
            StringBuilder got = new StringBuilder();
            for (int i = 7; i >= 0; i--) {
                got.append(words.told(i, 4));
            }
            Due.same("told(.., 4) of " + width + " bits", got.toString(), "00112222");
        }
    }

    private static void toldRefused() {
        for (int what : new int[] {Integer.MIN_VALUE, -1, 5, 6, Integer.MAX_VALUE}) {
            for (int i : new int[] {Integer.MIN_VALUE, -1, 0, 1, 2, 64, Integer.MAX_VALUE}) {
                Due.bad("told(" + i + ", " + what + ")", Due.pile("s1x", "10"), w -> w.told(i, what));
                Due.bad("told(" + i + ", " + what + ") of none", new FourWords(), w -> w.told(i, what));
            }
        }
        for (int k = 0; k <= 4; k++) {
            int what = k;
            for (int i : new int[] {Integer.MIN_VALUE, -64, -1, 2, 63, 64, Integer.MAX_VALUE}) {
                Due.state("told(" + i + ", " + what + ")", Due.pile("s1x", "10"), w -> w.told(i, what));
                Due.state("told(" + i + ", " + what + ") of none", new FourWords(), w -> w.told(i, what));
            }
            Due.state("told(0, " + what + ") of none", new FourWords(), w -> w.told(0, what));
        }
    }

    private static void counts() {
        FourWords words = new FourWords();
        Due.same("counts of a new object", words.count(0) + " " + words.count(1), "0 0");
        for (int i = 1; i <= 64; i++) {
            words.push(-1L, 0, 64, true);
            Due.same("count(0)", words.count(0), i);
        }
        Due.same("no text as yet", words.count(1), 0);
        words.text(0, false);
        Due.same("behind a text of 64", words.count(0) + " " + words.count(1), "63 64");
        words.text(2, true);
        Due.same("behind a text of 2", words.count(0) + " " + words.count(1), "62 2");
        for (int left = 61; left >= 1; left--) {
            words.two(5);
            Due.same("count(0)", words.count(0), left);
        }
        words.text(1, false);
        Due.same("behind the last value", words.count(0) + " " + words.count(1), "0 16");
    }

    private static void countsElse() {
        for (FourWords words : new FourWords[] {new FourWords(), Due.pile("1", "s0z")}) {
            for (int what : new int[] {Integer.MIN_VALUE, -2, -1, 2, 3, 4, 64, 256, 65536, Integer.MAX_VALUE}) {
                Due.same("count(" + what + ")", words.count(what), -1);
            }
        }
    }
}
