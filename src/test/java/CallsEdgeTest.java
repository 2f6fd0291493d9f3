/** The sentences of promises 1 to 12 that name a boundary case, a test for each, in their order. */
public final class CallsEdgeTest {
    private static final String[] SORTS = {"0", "1", "x", "z"};
    private static final String[] UNSURE = {"x", "z"};
    private static final String[] LEFT = {" << ", " <<< "};
    private static final String[] ALL_SHIFTS = {" << ", " >> ", " <<< ", " >>> "};
    private static final int[] BAD_WIDTHS = {Integer.MIN_VALUE, -64, -1, 0, 65, 128, Integer.MAX_VALUE};

    public static void main(String[] args) {
        Due.holds("PILE and TEXT are empty.", CallsEdgeTest::newObject);
        Due.holds("bits of ones that are 1 are 1 (x where unknown is 1, too), those just of unknown z",
            CallsEdgeTest::pushSorts);
        Due.holds("Puts a VALUE on the PILE (bits above its WIDTH are not there)", CallsEdgeTest::pushAboveWidth);
        Due.holds("WIDTH not 1 .. 64: bad.", CallsEdgeTest::pushWidth);
        Due.holds("Answers how many there are.", CallsEdgeTest::pushAnswers);
        Due.holds("gives a sign b: 0 + to 18 ||", CallsEdgeTest::twoSigns);
        Due.holds("0 +, 1 -, 2 *, 3 /, 4 %, 5 &, 6 |, 7 ^, 8 ~^ (of their WIDTH)", CallsEdgeTest::twoOfTheirWidth);
        Due.holds("9 ==, 10 !=, 11 ===, 12 !==, 13 <, 14 <=, 15 >, 16 >=, 17 &&, 18 || (WIDTH 1, not signed)",
            CallsEdgeTest::twoOfWidthOne);
        Due.holds("shifted by n (without sign)", CallsEdgeTest::shiftWithoutSign);
        Due.holds("by WIDTH or more all bits go", CallsEdgeTest::shiftByWidthOrMore);
        Due.holds("by x or z: all x", CallsEdgeTest::shiftByUnsure);
        Due.holds("with a's WIDTH, signed as it", CallsEdgeTest::shiftKeepsWidthAndSign);
        Due.holds("3 to the right, if a is signed with its highest bit in front. Else 0 comes in.",
            CallsEdgeTest::shiftWithHighestBit);
        Due.holds("0, 2 to the left, 1 to the right, 3 to the right", CallsEdgeTest::shiftHows);
        Due.holds("0 - a, 1 ~ a, (of its WIDTH, signed as it)", CallsEdgeTest::oneOfItsWidth);
        Due.holds("2 ! a, 3 & a, 4 ~& a, 5 | a, 6 ~| a, 7 ^ a, 8 ~^ a (WIDTH 1, not signed)",
            CallsEdgeTest::oneOfWidthOne);
        Due.holds("a if c is TRUE, b if FALSE", CallsEdgeTest::chooseByTruth);
        Due.holds("a and b being BROUGHT TOGETHER", CallsEdgeTest::chooseTogether);
        Due.holds("else bit by bit: the same 0 or 1 of both, else x", CallsEdgeTest::chooseBitByBit);
        Due.holds("Takes b (the top), then a, then c", CallsEdgeTest::chooseTooFew);
        Due.holds("gives a with b behind it, not signed", CallsEdgeTest::join);
        Due.holds("Too few VALUES: IllegalStateException", CallsEdgeTest::joinTooFew);
        Due.holds("above 64 bits together: bad", CallsEdgeTest::joinAbove64);
        Due.holds("gives n of it, one behind the other, not signed", CallsEdgeTest::copies);
        Due.holds("n below 1: bad; no VALUE: IllegalStateException", CallsEdgeTest::copiesBelowOne);
        Due.holds("above 64 bits: bad", CallsEdgeTest::copiesAbove64);
        Due.holds("gives its bits h to l, not signed", CallsEdgeTest::part);
        Due.holds("l below 0, or h below l: bad; no VALUE: IllegalStateException", CallsEdgeTest::partOutOfOrder);
        Due.holds("h not there: bad", CallsEdgeTest::partNotThere);
        Due.holds("gives bit i (a number signed as i is) of a .. not signed", CallsEdgeTest::bitNumbers);
        Due.holds("x if it isn't there (below 0, too)", CallsEdgeTest::bitNotThere);
        Due.holds("or i has an x or z; not signed", CallsEdgeTest::bitUnsure);
        Due.holds("gives it with another WIDTH (1 .. 64; else bad)", CallsEdgeTest::asWidths);
        Due.holds("cut .. and signed or not", CallsEdgeTest::asCut);
        Due.holds("or as it's signed with its highest bit or 0 in front, and signed or not", CallsEdgeTest::asInFront);
        Due.holds("Puts the VALUE that has i others above it on the PILE once more.", CallsEdgeTest::againPlaces);
        Due.holds("i below 0: bad; not there, or no room: IllegalStateException", CallsEdgeTest::againRefused);
        Due.end();
    }

    private static String row(int width, String sort) {
        return sort.repeat(width);
    }

    private static String lastAnd(String last, int width, String rest) {
        return rest.repeat(width - 1) + last;
    }

    /** Writes the number with so many bits. */
    private static String number(long number, int width) {
        String bits = Long.toBinaryString(number);
        return bits.length() >= width ? bits.substring(bits.length() - width) : row(width - bits.length(), "0") + bits;
    }

    private static void newObject() {
        Due.same("a new object", Due.state(new FourWords()), " \"\"");
        Due.same("a new object's counts", new FourWords().count(0) + " " + new FourWords().count(1), "0 0");
        Due.state("told(0, 2) of a new object", new FourWords(), w -> w.told(0, 2));
        Due.index("letter(0) of a new object", new FourWords(), w -> w.letter(0));
        FourWords used = Due.pile("1", "x");
        used.text(0, false);
        Due.same("a new object beside a used one", Due.state(new FourWords()), " \"\"");
    }

    private static void pushSorts() {
        for (int i = 0; i < 64; i++) {
            String front = row(63 - i, "0");
            String behind = row(i, "0");
            FourWords words = new FourWords();
            words.push(1L << i, 0, 64, false);
            words.push(1L << i, 1L << i, 64, false);
            words.push(0, 1L << i, 64, false);
            String want = front + "1" + behind + " " + front + "x" + behind + " " + front + "z" + behind;
            Due.same("push of bit " + i, Due.values(words), want);
        }
    }

    private static void pushAboveWidth() {
        for (int width = 1; width <= 64; width++) {
            FourWords words = new FourWords();
            words.push(-1L, 0, width, false);
            words.push(-1L, -1L, width, true);
            words.push(0, -1L, width, false);
            String want = row(width, "1") + " s" + row(width, "x") + " " + row(width, "z");
            Due.same("push with all bits", Due.values(words), want);
            if (width < 64) {
                words.push(-1L << width, -1L << width, width, false);
                Due.same("truth of bits above alone", words.told(0, 4), 0L);
            }
        }
    }

    private static void pushWidth() {
        for (int width : BAD_WIDTHS) {
            Due.bad("push with width " + width, new FourWords(), w -> w.push(0, 0, width, false));
            Due.bad("push with width " + width, Due.pile("x"), w -> w.push(-1L, -1L, width, true));
        }
        FourWords words = new FourWords();
        words.push(1, 0, 1, false);
        words.push(1, 0, 64, true);
        Due.same("widths 1 and 64", words.told(1, 2) + " " + words.told(0, 2), "1 64");
    }

    private static void pushAnswers() {
        FourWords words = new FourWords();
        for (int i = 1; i <= 64; i++) {
            Due.same("push " + i, words.push(0, 0, i, false), i);
        }
        words.choose();
        Due.same("push on 62", words.push(0, 0, 1, false), 63);
        Due.thrown(words, w -> w.push(0, 0, 0, false));
        Due.same("push behind a refused one", words.push(0, 0, 1, false), 64);
    }

    private static void twoSigns() {
        for (int sign : new int[] {Integer.MIN_VALUE, -1, 19, 20, Integer.MAX_VALUE}) {
            Due.bad("two(" + sign + ")", Due.pile("1", "s01", "10"), w -> w.two(sign));
        }
        String[] wants = {"1001", "0101", "1110", "0011", "0001", "0010", "0111", "0101", "1010",
            "0", "1", "0", "1", "0", "0", "1", "1", "1", "1"};
        for (int sign = 0; sign <= 18; sign++) {
            FourWords words = Due.pile("0111", "0010");
            words.two(sign);
            Due.same("7 sign " + sign + " 2", Due.values(words), wants[sign]);
        }
    }

    private static void twoOfTheirWidth() {
        for (int sign = 0; sign <= 8; sign++) {
            for (int width = 1; width <= 64; width++) {
                FourWords words = Due.pile("s" + row(width, "1"), "s1", row(65 - width, "1"), "1");
                words.two(sign);
                String got = words.told(0, 2) + " " + words.told(0, 3);
                words.text(0, true);
                words.two(sign);
                got += " " + words.told(0, 2) + " " + words.told(0, 3);
                Due.same("WIDTH and sign by " + sign, got, (65 - width) + " 0 " + width + " 1");
            }
        }
    }

    private static void twoOfWidthOne() {
        for (int sign = 9; sign <= 18; sign++) {
            for (int width = 1; width <= 64; width++) {
                for (String sort : SORTS) {
                    FourWords words = Due.pile("s" + row(width, sort), "s" + row(65 - width, sort));
                    words.two(sign);
                    String shape = words.count(0) + " " + words.told(0, 2) + " " + words.told(0, 3);
                    Due.same("WIDTH and sign by " + sign, shape, "1 1 0");
                }
            }
        }
    }

    private static void shiftWithoutSign() {
        for (String shift : LEFT) {
            Phrase.gives("1111" + shift + "s1", "1110");
            Phrase.gives("1111" + shift + "s11", "1000");
            Phrase.gives("1111" + shift + "s111", "0000");
            Phrase.gives(row(64, "1") + shift + "s" + row(6, "1"), "1" + row(63, "0"));
            Phrase.gives(row(64, "1") + shift + "s" + row(64, "1"), row(64, "0"));
        }
        Phrase.gives("s1000 >> s11", "s0001");
        Phrase.gives("s1000 >>> s10", "s1110");
        Phrase.gives("1000 >>> s11", "0001");
        Phrase.gives("s1000 >>> s" + row(64, "1"), "s1111");
        Phrase.gives("s0111 >> s" + row(64, "1"), "s0000");
    }

    private static void shiftByWidthOrMore() {
        for (int width = 1; width <= 64; width++) {
            for (int by = width - 1; by <= width + 1; by++) {
                all(width, number(by, 7), by);
            }
            for (int power = 6; power < 64; power++) {
                all(width, number(1L << power, 64), 64);
                all(width, number((1L << power) + 1, 64), 64);
            }
            all(width, row(64, "1"), 64);
        }
    }

    private static void all(int width, String n, int by) {
        int stay = Math.max(0, width - by);
        int gone = width - stay;
        for (String sort : new String[] {"1", "z"}) {
            String a = row(width, sort);
            Phrase.gives(a + " << " + n, row(stay, sort) + row(gone, "0"));
            Phrase.gives("s" + a + " <<< " + n, "s" + row(stay, sort) + row(gone, "0"));
            Phrase.gives("s" + a + " >> " + n, "s" + row(gone, "0") + row(stay, sort));
            Phrase.gives(a + " >>> " + n, row(gone, "0") + row(stay, sort));
            Phrase.gives("s" + a + " >>> " + n, "s" + a);
            if (width > 1) {
                String zeros = "s0" + row(width - 1, sort);
                Phrase.gives(zeros + " >>> " + n, "s" + row(gone, "0") + zeros.substring(1, 1 + stay));
            }
        }
    }

    private static void shiftByUnsure() {
        for (int width : new int[] {1, 2, 63, 64}) {
            for (String shift : ALL_SHIFTS) {
                for (String sort : UNSURE) {
                    Phrase.gives(row(width, "0") + shift + sort, row(width, "x"));
                    Phrase.gives("s" + row(width, "z") + shift + sort + row(63, "0"), "s" + row(width, "x"));
                    Phrase.gives(row(width, "1") + shift + "1" + lastAnd(sort, 63, "1"), row(width, "x"));
                    Phrase.gives("s" + row(width, "1") + shift + "s0" + sort, "s" + row(width, "x"));
                }
            }
        }
    }

    private static void shiftKeepsWidthAndSign() {
        for (String shift : ALL_SHIFTS) {
            Phrase.gives("x" + shift + row(64, "0"), "x");
            Phrase.gives("sz" + shift + row(64, "0"), "sz");
            Phrase.gives("0xz1" + shift + "s0", "0xz1");
            Phrase.gives("s0xz1" + shift + "0", "s0xz1");
            Phrase.gives("s" + row(64, "x") + shift + "0", "s" + row(64, "x"));
        }
        Phrase.gives("s01xz << 1", "s1xz0");
        Phrase.gives("01xz >> s1", "001x");
    }

    private static void shiftWithHighestBit() {
        for (int width : new int[] {1, 2, 3, 63, 64}) {
            for (String sort : SORTS) {
                for (int by = 0; by <= width; by++) {
                    String rest = row(width - 1, "0");
                    String stay = (sort + rest).substring(0, width - by);
                    String n = number(by, 7);
                    Phrase.gives("s" + sort + rest + " >>> " + n, "s" + row(by, sort) + stay);
                    Phrase.gives(sort + rest + " >>> " + n, row(by, "0") + stay);
                    Phrase.gives("s" + sort + rest + " >> " + n, "s" + row(by, "0") + stay);
                    Phrase.gives("s" + rest + sort + " << " + n, "s" + (rest + sort).substring(by) + row(by, "0"));
                    Phrase.gives("s" + rest + sort + " <<< " + n, "s" + (rest + sort).substring(by) + row(by, "0"));
                }
            }
        }
    }

    private static void shiftHows() {
        for (int how : new int[] {Integer.MIN_VALUE, -1, 4, 5, Integer.MAX_VALUE}) {
            Due.bad("shift(" + how + ")", Due.pile("x", "s01", "1"), w -> w.shift(how));
        }
    }

    private static void oneOfItsWidth() {
        for (int width = 1; width <= 64; width++) {
            String one = lastAnd("1", width, "0");
            Phrase.gives("- " + one, row(width, "1"));
            Phrase.gives("- s" + one, "s" + row(width, "1"));
            Phrase.gives("~ " + row(width, "0"), row(width, "1"));
            Phrase.gives("~ s" + row(width, "1"), "s" + row(width, "0"));
            Phrase.gives("~ s" + row(width, "z"), "s" + row(width, "x"));
        }
        for (int sign : new int[] {Integer.MIN_VALUE, -1, 9, 10, Integer.MAX_VALUE}) {
            Due.bad("one(" + sign + ")", Due.pile("x", "s01"), w -> w.one(sign));
        }
    }

    private static void oneOfWidthOne() {
        String[] wants = {"1010101", "0101010", "xxxxxxx", "xxxxxxx"};
        for (int width = 1; width <= 63; width += 2) {
            for (int i = 0; i < 4; i++) {
                Phrase.before("! & ~& | ~| ^ ~^", "s" + row(width, SORTS[i]), wants[i]);
                Phrase.before("! & ~& | ~| ^ ~^", row(width, SORTS[i]), wants[i]);
            }
        }
        Phrase.before("! & ~& | ~| ^ ~^", "s" + row(64, "1"), "0101001");
    }

    private static void chooseByTruth() {
        for (int width = 1; width <= 64; width++) {
            String a = row(width, "z");
            String b = row(width, "x");
            String[] trueOnes = {"1", "s1", "1" + row(63, "x"), lastAnd("1", 64, "z"), lastAnd("1", width, "0")};
            for (String yes : trueOnes) {
                Phrase.gives(yes + " ? " + a + " : " + b, a);
            }
            for (String no : new String[] {"0", "s0", row(64, "0"), row(width, "0")}) {
                Phrase.gives(no + " ? s" + a + " : s" + b, "s" + b);
            }
        }
    }

    private static void chooseTogether() {
        Phrase.gives(row(64, "1") + " ? 1 : 0", "1");
        Phrase.gives("s1 ? 1 : 00", "01");
        Phrase.gives("1 ? s1 : s00", "s11");
        Phrase.gives("0 ? s00 : s1", "s11");
    }

    private static void chooseBitByBit() {
        for (String c : new String[] {"x", "z", "0z", "sx0", row(64, "z"), "x" + row(63, "0"), lastAnd("z", 64, "0")}) {
            for (int width : new int[] {1, 2, 32, 63, 64}) {
                for (String left : SORTS) {
                    for (String right : SORTS) {
                        boolean sure = left.equals("0") || left.equals("1");
                        String want = left.equals(right) && sure ? left : "x";
                        Phrase.gives(c + " ? " + row(width, left) + " : " + row(width, right), row(width, want));
                    }
                }
            }
        }
        Phrase.gives("x ? s1 : s011", "sx11");
        Phrase.gives("x ? s1 : 011", "0x1");
        Phrase.gives("z ? 1 : " + row(64, "0"), lastAnd("x", 64, "0"));
    }

    private static void chooseTooFew() {
        Due.state("choose of none", new FourWords(), w -> w.choose());
        Due.state("choose of one", Due.pile("1"), w -> w.choose());
        Due.state("choose of two", Due.pile("s1", "s0z"), w -> w.choose());
        FourWords words = Due.pile("0", "01", "s10");
        words.choose();
        Due.same("0 ? 01 : s10", Due.values(words), "10");
    }

    private static void join() {
        for (int width = 1; width <= 63; width++) {
            for (String sort : SORTS) {
                String a = row(width, sort);
                String b = "1" + row(63 - width, "z");
                Phrase.gives(a + " join " + b, a + b);
                Phrase.gives("s" + a + " join s" + b, a + b);
                Phrase.gives("s" + a + " join 0", a + "0");
                Phrase.gives("1 join s" + a, "1" + a);
            }
        }
    }

    private static void joinTooFew() {
        Due.state("join of none", new FourWords(), w -> w.join());
        Due.state("join of one", Due.pile("s1"), w -> w.join());
        Due.state("join of one of 64 bits", Due.pile(row(64, "1")), w -> w.join());
    }

    private static void joinAbove64() {
        for (int width = 1; width <= 64; width++) {
            Due.bad("join to 65 bits", Due.pile("z", "s" + row(width, "x"), row(65 - width, "1")), w -> w.join());
            Due.bad("join of " + width + " and 64 bits", Due.pile(row(width, "1"), "s" + row(64, "1")), w -> w.join());
        }
    }

    private static void copies() {
        for (int width = 1; width <= 64; width++) {
            String a = "x" + row(width - 1, "0");
            for (int n = 1; n * width <= 64; n++) {
                Phrase.gives("s" + a + " copies " + n, a.repeat(n));
                Phrase.gives(row(width, "z") + " copies " + n, row(width * n, "z"));
            }
        }
    }

    private static void copiesBelowOne() {
        for (int n : new int[] {Integer.MIN_VALUE, -64, -1, 0}) {
            Due.bad("copies(" + n + ")", Due.pile("s1x"), w -> w.copies(n));
            Due.bad("copies(" + n + ") of none", new FourWords(), w -> w.copies(n));
        }
        for (int n : new int[] {1, 64, 65, Integer.MAX_VALUE}) {
            Due.state("copies(" + n + ") of none", new FourWords(), w -> w.copies(n));
        }
    }

    private static void copiesAbove64() {
        for (int width = 1; width <= 64; width++) {
            String a = "s" + row(width, "x");
            int first = 64 / width + 1;
            // The products of the latter ones wrap round in an int, some of them to 0 or to a few bits.
            for (int n : new int[] {first, first + 1, 65, 1 << 26, 1 << 27, (1 << 28) + 1, 1 << 30, (1 << 30) + 1,
                Integer.MAX_VALUE / width + 1, (int) ((1L << 32) / width + 1 & Integer.MAX_VALUE), Integer.MAX_VALUE}) {
                if ((long) n * width > 64) {
                    Due.bad(n + " copies of " + width + " bits", Due.pile("z", a), w -> w.copies(n));
                }
            }
        }
    }

    private static void part() {
        String bits = "01xz".repeat(8) + "zx10".repeat(8);
        for (int h = 0; h < 64; h++) {
            for (int l = 0; l <= h; l++) {
                Phrase.gives("s" + bits + " part " + h + " " + l, bits.substring(63 - h, 64 - l));
            }
        }
        Phrase.gives("sz part 0 0", "z");
    }

    private static void partOutOfOrder() {
        int[][] bad = {{0, -1}, {-1, -1}, {-1, 0}, {0, 1}, {2, 3}, {63, 64}, {3, Integer.MIN_VALUE},
            {Integer.MIN_VALUE, Integer.MAX_VALUE}, {Integer.MIN_VALUE, Integer.MIN_VALUE}, {0, Integer.MAX_VALUE}};
        for (int[] p : bad) {
            Due.bad("part(" + p[0] + ", " + p[1] + ")", Due.pile("s1x0z"), w -> w.part(p[0], p[1]));
            Due.bad("part(" + p[0] + ", " + p[1] + ") of none", new FourWords(), w -> w.part(p[0], p[1]));
        }
        int[][] fine = {{0, 0}, {63, 0}, {64, 0}, {Integer.MAX_VALUE, 0}, {Integer.MAX_VALUE, Integer.MAX_VALUE}};
        for (int[] p : fine) {
            Due.state("part(" + p[0] + ", " + p[1] + ") of none", new FourWords(), w -> w.part(p[0], p[1]));
        }
    }

    private static void partNotThere() {
        for (int width = 1; width <= 64; width++) {
            String a = "s" + row(width, "x");
            for (int h : new int[] {width, width + 1, 64, 127, Integer.MAX_VALUE}) {
                Due.bad("part(" + h + ", 0) of " + width + " bits", Due.pile("z", a), w -> w.part(h, 0));
                Due.bad("part(" + h + ", " + h + ") of " + width + " bits", Due.pile("z", a), w -> w.part(h, h));
            }
        }
    }

    private static void bitNumbers() {
        for (int width = 1; width <= 64; width++) {
            for (int i = 0; i < width; i++) {
                for (String sort : SORTS) {
                    String other = sort.equals("1") ? "z" : "1";
                    String a = "s" + row(width - 1 - i, other) + sort + row(i, other);
                    Phrase.gives(a + " bit " + number(i, 6), sort);
                    Phrase.gives(a + " bit s" + number(i, 7), sort);
                    Phrase.gives(a + " bit " + number(i, 64), sort);
                }
            }
        }
        Phrase.gives("s01 bit 1", "0");
        Phrase.gives("0010 bit 1", "1");
        Phrase.gives("0100 bit 10", "1");
    }

    private static void bitNotThere() {
        for (int width = 1; width <= 64; width++) {
            for (String a : new String[] {row(width, "0"), "s" + row(width, "1")}) {
                Phrase.gives(a + " bit " + number(width, 7), "x");
                Phrase.gives(a + " bit s" + number(width, 8), "x");
                Phrase.gives(a + " bit s1", "x");
                Phrase.gives(a + " bit s10", "x");
                Phrase.gives(a + " bit s" + row(64, "1"), "x");
                Phrase.gives(a + " bit s1" + row(63, "0"), "x");
                Phrase.gives(a + " bit " + row(64, "1"), "x");
                for (int power = 6; power < 64; power++) {
                    Phrase.gives(a + " bit " + number(1L << power, power + 1), "x");
                    Phrase.gives(a + " bit s" + number(1L << power, power + 1), "x");
                }
            }
        }
        Phrase.gives("0000 bit s11", "x");
        Phrase.gives("0000 bit 11", "0");
        Due.state("bit of none", new FourWords(), w -> w.bit());
        Due.state("bit of one", Due.pile("s10"), w -> w.bit());
    }

    private static void bitUnsure() {
        for (String a : new String[] {"0", "11", "s" + row(64, "0")}) {
            for (String sort : UNSURE) {
                Phrase.gives(a + " bit " + sort, "x");
                Phrase.gives(a + " bit 0" + sort, "x");
                Phrase.gives(a + " bit s" + sort + row(63, "0"), "x");
                Phrase.gives(a + " bit " + lastAnd(sort, 64, "0"), "x");
            }
        }
    }

    private static void asWidths() {
        for (int width : BAD_WIDTHS) {
            Due.bad("as(" + width + ", true)", Due.pile("x", "01"), w -> w.as(width, true));
            Due.bad("as(" + width + ", false) of none", new FourWords(), w -> w.as(width, false));
        }
        Due.state("as(1, true) of none", new FourWords(), w -> w.as(1, true));
        Due.state("as(64, false) of none", new FourWords(), w -> w.as(64, false));
    }

    private static void asCut() {
        for (int width = 1; width <= 64; width++) {
            String front = row(64 - width, "x");
            String kept = "z" + row(width - 1, "1");
            Phrase.gives(front + kept + " as " + width + " signed", "s" + kept);
            Phrase.gives("s" + front + kept + " as " + width + " plain", kept);
            Phrase.gives("s" + kept + " as " + width + " plain", kept);
            Phrase.gives(kept + " as " + width + " signed", "s" + kept);
        }
    }

    private static void asInFront() {
        for (int from = 1; from <= 64; from++) {
            for (int to = from; to <= 64; to++) {
                for (String sort : SORTS) {
                    String a = sort + row(from - 1, "1");
                    Phrase.gives("s" + a + " as " + to + " plain", row(to - from, sort) + a);
                    Phrase.gives("s" + a + " as " + to + " signed", "s" + row(to - from, sort) + a);
                    Phrase.gives(a + " as " + to + " signed", "s" + row(to - from, "0") + a);
                    Phrase.gives(a + " as " + to + " plain", row(to - from, "0") + a);
                }
            }
        }
    }

    private static void againPlaces() {
        for (int size = 1; size < 64; size++) {
            for (int i : new int[] {0, size / 2, size - 1}) {
                FourWords words = new FourWords();
                for (int k = 0; k < size; k++) {
                    words.push(k, k, k + 1, k % 2 == 0);
                }
                int again = size - 1 - i;
                words.again(i);
                String got = words.count(0) + " " + words.told(0, 0) + " " + words.told(0, 1) + " " + words.told(0, 2)
                    + " " + words.told(0, 3) + " " + words.told(i + 1, 2);
                Due.same("again(" + i + ") of " + size, got, (size + 1) + " " + again + " " + again + " "
                    + (again + 1) + " " + (again % 2 == 0 ? 1 : 0) + " " + (again + 1));
            }
        }
    }

    private static void againRefused() {
        for (int i : new int[] {Integer.MIN_VALUE, -64, -1}) {
            Due.bad("again(" + i + ")", Due.pile("x", "s01"), w -> w.again(i));
            Due.bad("again(" + i + ") of none", new FourWords(), w -> w.again(i));
        }
        Due.state("again(0) of none", new FourWords(), w -> w.again(0));
        for (int i : new int[] {2, 3, 63, 64, Integer.MAX_VALUE}) {
            Due.state("again(" + i + ") of two", Due.pile("x", "s01"), w -> w.again(i));
        }
        FourWords full = Due.pile("s1z");
        for (int i = 0; i < 63; i++) {
            full.again(i);
        }
        for (int i : new int[] {0, 63, 64, Integer.MAX_VALUE}) {
            Due.same("again(" + i + ") of 64", Due.thrown(full, w -> w.again(i)), "IllegalStateException");
        }
        Due.same("again(-1) of 64", Due.thrown(full, w -> w.again(-1)), "IllegalArgumentException");
        Due.same("a full pile stays", Due.values(full), "s1z" + " s1z".repeat(63));
    }
}
