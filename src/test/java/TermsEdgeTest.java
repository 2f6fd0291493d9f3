/** The sentences of "What it is" and "Terms" that name a boundary case, a test for each, in their order. */
public final class TermsEdgeTest {
    private static final String[] SORTS = {"0", "1", "x", "z"};
    private static final String[] UNSURE = {"x", "z"};
    private static final String[] SIGNS = {"", "s"};
    private static final int[] WIDTHS = {1, 2, 3, 31, 32, 33, 63, 64};

    public static void main(String[] args) {
        Due.holds("An object is used for at most 512 calls after it has been made", TermsEdgeTest::atMost512Calls);
        Due.holds("0, 1, x (not known) and z (not driven), of any WIDTH to 64, signed or not",
            TermsEdgeTest::anyWidthTo64);
        Due.holds("VALUES have a WIDTH, 1 .. 64 bits, number WIDTH - 1 (the highest) to 0",
            TermsEdgeTest::numbersOfBits);
        Due.holds("PILE: at most 64 of them, none at first", TermsEdgeTest::atMost64Values);
        Due.holds("\"the top\" was put on it last. A call that takes VALUES takes the top first",
            TermsEdgeTest::topFirst);
        Due.holds("what it gives is the top then", TermsEdgeTest::givenOnTop);
        Due.holds("both get the greater WIDTH, in front with the highest bit if both are signed, else with 0",
            TermsEdgeTest::broughtTogetherInWidth);
        Due.holds("signed if both are", TermsEdgeTest::broughtTogetherSigned);
        Due.holds("With an x or z in either, + - * / % and - before give x in all bits", TermsEdgeTest::unsureNumbers);
        Due.holds("so do x / 0, x % 0", TermsEdgeTest::dividedByZero);
        Due.holds("/ and % of signed ones are cut towards 0, % having the left's sign", TermsEdgeTest::cutTowardsZero);
        Due.holds("the least one by -1 itself and 0", TermsEdgeTest::leastByMinusOne);
        Due.holds("Results are cut to the WIDTH", TermsEdgeTest::cutToTheWidth);
        Due.holds("& | ^ ~: bit by bit, z as x (0 & x is 0, 1 | x is 1, else x)", TermsEdgeTest::zAsX);
        Due.holds("==: 0 if a bit is 0 in one and 1 in the other; else x if there's an x or z; else 1; != its opposite",
            TermsEdgeTest::equal);
        Due.holds("=== !==: whether the bits are the same, x and z, too", TermsEdgeTest::theSameBits);
        Due.holds("< <= > >= (of the least, the greatest and equal ones)", TermsEdgeTest::order);
        Due.holds("< <= > >=: x with any x or z", TermsEdgeTest::orderWithUnsure);
        Due.holds("TRUE: a bit is 1; FALSE: all are 0; else x", TermsEdgeTest::trueAndFalse);
        Due.holds("With x: 0 && x is 0, 1 || x is 1, else x", TermsEdgeTest::trueAndFalseWithX);
        Due.holds("& 0 if a bit is 0, else x with x or z, else 1", TermsEdgeTest::andBefore);
        Due.holds("| 1 if a bit is 1, else x with x or z, else 0", TermsEdgeTest::orBefore);
        Due.holds("^ x with any, else whether the bits that are 1 are odd", TermsEdgeTest::xorBefore);
        Due.holds("~& ~| ~^ their opposites (of x: x)", TermsEdgeTest::oppositesBefore);
        Due.end();
    }

    private static String row(int width, String sort) {
        return sort.repeat(width);
    }

    private static String firstAnd(String first, int width, String rest) {
        return first + rest.repeat(width - 1);
    }

    private static String lastAnd(String last, int width, String rest) {
        return rest.repeat(width - 1) + last;
    }

    private static void atMost512Calls() {
        FourWords writer = new FourWords();
        for (int i = 0; i < 256; i++) {
            Due.same("push " + i, writer.push(-1L, i, 64, true), 1);
            Due.same("text " + i, writer.text(0, false), 64);
        }
        FourWords adder = new FourWords();
        for (int round = 0; round < 4; round++) {
            for (int i = 1; i <= 64; i++) {
                Due.same("push " + i, adder.push(i, 0, 16, false), i);
            }
            for (int i = 1; i < 64; i++) {
                adder.two(0);
            }
            if (round < 3) {
                adder.text(2, true);
            }
        }
        Due.same("the 512th call", adder.told(0, 0), 64L * 65 / 2);
        FourWords refuser = new FourWords();
        for (int i = 0; i < 510; i++) {
            Due.same("choose of none", Due.thrown(refuser, w -> w.choose()), "IllegalStateException");
        }
        Due.same("the 511th call", refuser.push(5, 0, 4, true), 1);
        Due.same("the 512th call", refuser.told(0, 0), 5L);
    }

    private static void anyWidthTo64() {
        for (int width = 1; width <= 64; width++) {
            for (String sort : SORTS) {
                for (String other : SORTS) {
                    String first = firstAnd(sort, width, other);
                    String last = "s" + lastAnd(sort, width, other);
                    Due.same("told of all", Due.values(Due.pile(first, last)), first + " " + last);
                }
            }
        }
    }

    private static void numbersOfBits() {
        for (int width = 1; width <= 64; width++) {
            String highest = firstAnd("z", width, "1");
            String lowest = lastAnd("x", width, "0");
            Phrase.gives(highest + " part " + (width - 1) + " " + (width - 1), "z");
            Phrase.gives(lowest + " part 0 0", "x");
            if (width > 1) {
                Phrase.gives(highest + " part " + (width - 2) + " 0", row(width - 1, "1"));
                Phrase.gives(lowest + " part " + (width - 1) + " 1", row(width - 1, "0"));
            }
        }
    }

    private static void atMost64Values() {
        Due.same("none at first", new FourWords().count(0), 0);
        FourWords words = new FourWords();
        for (int i = 1; i <= 64; i++) {
            Due.same("push " + i, words.push(i, 0, 64, false), i);
        }
        Due.same("push to 65", Due.thrown(words, w -> w.push(0, 0, 1, true)), "IllegalStateException");
        Due.same("again to 65", Due.thrown(words, w -> w.again(0)), "IllegalStateException");
        Due.same("still 64", words.count(0), 64);
        words.text(0, true);
        Due.same("the 64th is free once more", words.push(99, 0, 64, false), 64);
        Due.same("push to 65", Due.thrown(words, w -> w.push(0, 0, 1, true)), "IllegalStateException");
        for (int i = 0; i < 64; i++) {
            Due.same("told(" + i + ", 0)", words.told(i, 0), i == 0 ? 99L : 64L - i);
        }
    }

    private static void topFirst() {
        // Just as many values as the call takes, so that nothing lies below them.
        FourWords words = Due.pile("0111", "0010");
        words.two(1);
        Due.same("7 - 2", Due.values(words), "0101");
        words = Due.pile("0111", "0010");
        words.shift(0);
        Due.same("7 shifted by 2", Due.values(words), "1100");
        words = Due.pile("1", "01", "10");
        words.choose();
        Due.same("1 ? 01 : 10", Due.values(words), "01");
        words = Due.pile("x0", "1z");
        words.join();
        Due.same("x0 with 1z behind it", Due.values(words), "x01z");
        words = Due.pile("0100", "10");
        words.bit();
        Due.same("bit 2 of 0100", Due.values(words), "1");
        words = Due.pile("0001", "1000");
        words.text(0, false);
        Due.same("text of the top", Due.state(words), "0001 \"1000\"");
    }

    private static void givenOnTop() {
        FourWords words = Due.pile("111", "01", "01");
        words.two(0);
        words.again(0);
        Due.same("1 + 1, again", Due.values(words), "111 10 10");
    }

    private static void broughtTogetherInWidth() {
        for (int width = 1; width <= 64; width++) {
            for (int other = 1; other <= 64; other++) {
                int more = Math.max(0, other - width);
                for (String sort : SORTS) {
                    String value = firstAnd(sort, width, "1");
                    String zeros = row(other, "0");
                    String signed = "s" + row(more, sort) + value;
                    String plain = row(more, "0") + value;
                    Phrase.gives("1 ? s" + value + " : s" + zeros, signed);
                    Phrase.gives("0 ? s" + zeros + " : s" + value, signed);
                    Phrase.gives("1 ? s" + value + " : " + zeros, plain);
                    Phrase.gives("0 ? s" + zeros + " : " + value, plain);
                }
            }
        }
        Phrase.gives("1 + " + row(64, "0"), lastAnd("1", 64, "0"));
        Phrase.gives("s1 + s" + row(64, "0"), "s" + row(64, "1"));
        Phrase.gives("s" + row(64, "0") + " + s1", "s" + row(64, "1"));
        Phrase.gives("s" + row(64, "0") + " + 1", lastAnd("1", 64, "0"));
        Phrase.gives("s1000 / s10", "s0100");
        Phrase.gives("s1000 / 10", "0100");
        Phrase.gives("s10 / 1000", "0000");
        Phrase.gives("s10 < s0001", "1");
        Phrase.gives("s10 < 0001", "0");
    }

    private static void broughtTogetherSigned() {
        for (int width : WIDTHS) {
            for (String sign : new String[] {"+", "-", "*", "&", "|", "^"}) {
                String zeros = row(width, "0");
                for (String left : SIGNS) {
                    for (String right : SIGNS) {
                        Phrase.gives(left + zeros + " " + sign + " " + right + zeros, bothSigned(left, right) + zeros);
                    }
                }
            }
        }
        for (String left : SIGNS) {
            for (String right : SIGNS) {
                String both = bothSigned(left, right);
                Phrase.gives(left + "011 / " + right + "001", both + "011");
                Phrase.gives(left + "011 % " + right + "010", both + "001");
                Phrase.gives(left + "011 ~^ " + right + "001", both + "101");
                Phrase.gives("s1 ? " + left + "01 : " + right + "001", both + "001");
                Phrase.gives("s0 ? " + left + "01 : " + right + "001", both + "001");
                Phrase.gives("x ? " + left + "01 : " + right + "001", both + "001");
            }
        }
    }

    private static String bothSigned(String left, String right) {
        return left.equals("s") && right.equals("s") ? "s" : "";
    }

    private static void unsureNumbers() {
        for (int width : WIDTHS) {
            String zeros = row(width, "0");
            String unknown = row(width, "x");
            for (String sort : UNSURE) {
                for (String value : new String[] {firstAnd(sort, width, "0"), lastAnd(sort, width, "1")}) {
                    for (String sign : new String[] {"+", "-", "*", "/", "%"}) {
                        Phrase.gives(value + " " + sign + " " + lastAnd("1", width, "0"), unknown);
                        Phrase.gives(zeros + " " + sign + " " + value, unknown);
                        Phrase.gives("s" + value + " " + sign + " s" + value, "s" + unknown);
                        Phrase.gives("1 " + sign + " s" + value, unknown);
                    }
                    Phrase.gives("- " + value, unknown);
                    Phrase.gives("- s" + value, "s" + unknown);
                }
                Phrase.gives(zeros + " * " + sort, unknown);
                Phrase.gives(sort + " * " + zeros, unknown);
            }
        }
    }

    private static void dividedByZero() {
        for (int width = 1; width <= 64; width++) {
            String zeros = row(width, "0");
            for (String left : new String[] {zeros, lastAnd("1", width, "0"), row(width, "1"), row(width, "x")}) {
                for (String sign : new String[] {" / ", " % "}) {
                    Phrase.gives(left + sign + zeros, row(width, "x"));
                    Phrase.gives("s" + left + sign + "s0", "s" + row(width, "x"));
                    Phrase.gives(left + sign + row(64, "0"), row(64, "x"));
                }
            }
        }
    }

    private static void cutTowardsZero() {
        Phrase.gives("s0111 / s0010", "s0011");
        Phrase.gives("s1001 / s0010", "s1101");
        Phrase.gives("s0111 / s1110", "s1101");
        Phrase.gives("s1001 / s1110", "s0011");
        Phrase.gives("s0111 % s0010", "s0001");
        Phrase.gives("s1001 % s0010", "s1111");
        Phrase.gives("s0111 % s1110", "s0001");
        Phrase.gives("s1001 % s1110", "s1111");
        Phrase.gives("s1010 % s0010", "s0000");
        Phrase.gives("s1111 / s0010", "s0000");
        Phrase.gives("s1111 % s1000", "s1111");
        Phrase.gives("s0001 / s1000", "s0000");
        Phrase.gives("s1000 / s0111", "s1111");
        Phrase.gives("s1000 % s0111", "s1111");
        Phrase.gives("s1001 / 0010", "0100");
        Phrase.gives("1001 % s1110", "1001");
        String least = "s" + firstAnd("1", 64, "0");
        Phrase.gives(least + " / s0" + row(63, "1"), "s" + row(64, "1"));
        Phrase.gives(least + " % s0" + row(63, "1"), "s" + row(64, "1"));
        Phrase.gives("s" + row(64, "1") + " / s010", "s" + row(64, "0"));
        Phrase.gives("s" + row(64, "1") + " % s010", "s" + row(64, "1"));
        Phrase.gives(row(64, "1") + " / 10", "0" + row(63, "1"));
        Phrase.gives(row(64, "1") + " / " + firstAnd("1", 64, "0"), lastAnd("1", 64, "0"));
        Phrase.gives(row(64, "1") + " % " + firstAnd("1", 64, "0"), "0" + row(63, "1"));
    }

    private static void leastByMinusOne() {
        for (int width = 1; width <= 64; width++) {
            String least = "s" + firstAnd("1", width, "0");
            for (String minusOne : new String[] {"s" + row(width, "1"), "s1"}) {
                Phrase.gives(least + " / " + minusOne, least);
                Phrase.gives(least + " % " + minusOne, "s" + row(width, "0"));
            }
            if (width > 1) {
                Phrase.gives(least + " / " + row(width, "1"), row(width, "0"));
                Phrase.gives(least + " % " + row(width, "1"), firstAnd("1", width, "0"));
            }
        }
    }

    private static void cutToTheWidth() {
        for (int width = 1; width <= 64; width++) {
            String zeros = row(width, "0");
            String ones = row(width, "1");
            String one = lastAnd("1", width, "0");
            String least = firstAnd("1", width, "0");
            String greatest = firstAnd("0", width, "1");
            Phrase.gives(ones + " + " + one, zeros);
            Phrase.gives(zeros + " - " + one, ones);
            Phrase.gives(ones + " * " + ones, one);
            Phrase.gives(ones + " + " + ones, lastAnd("0", width, "1"));
            Phrase.gives(least + " + " + least, zeros);
            Phrase.gives("- " + one, ones);
            Phrase.gives("- s" + least, "s" + least);
            Phrase.gives("- s" + zeros, "s" + zeros);
            Phrase.gives("s" + ones + " * s" + least, "s" + least);
            if (width > 1) {
                Phrase.gives("s" + greatest + " + s0" + "1", "s" + least);
                Phrase.gives("s" + least + " - s0" + "1", "s" + greatest);
                Phrase.gives(least + " * 10", zeros);
            }
        }
    }

    private static void zAsX() {
        String[] and = {"0000", "01xx", "0xxx", "0xxx"};
        String[] or = {"01xx", "1111", "x1xx", "x1xx"};
        String[] xor = {"01xx", "10xx", "xxxx", "xxxx"};
        String[] same = {"10xx", "01xx", "xxxx", "xxxx"};
        for (int width : WIDTHS) {
            for (int i = 0; i < 16; i++) {
                String left = row(width, SORTS[i / 4]);
                String right = row(width, SORTS[i % 4]);
                Phrase.gives(left + " & " + right, row(width, and[i / 4].substring(i % 4, i % 4 + 1)));
                Phrase.gives(left + " | " + right, row(width, or[i / 4].substring(i % 4, i % 4 + 1)));
                Phrase.gives(left + " ^ " + right, row(width, xor[i / 4].substring(i % 4, i % 4 + 1)));
                Phrase.gives(left + " ~^ " + right, row(width, same[i / 4].substring(i % 4, i % 4 + 1)));
            }
            for (int i = 0; i < 4; i++) {
                String inverted = "10xx".substring(i, i + 1);
                Phrase.gives("~ " + firstAnd("0", width, SORTS[i]), firstAnd("1", width, inverted));
                Phrase.gives("~ s" + lastAnd(SORTS[i], width, "1"), "s" + lastAnd(inverted, width, "0"));
            }
        }
        Phrase.gives("01xz & 1", "000x");
        Phrase.gives("01xz | 1", "01x1");
    }

    private static void equal() {
        for (int width = 1; width <= 64; width++) {
            for (String sort : SORTS) {
                boolean sure = sort.equals("0") || sort.equals("1");
                String rest = row(width, sort);
                Phrase.between(rest, "== !=", rest, sure ? "10" : "xx");
                Phrase.between(firstAnd("0", width, sort), "== !=", firstAnd("1", width, sort), "01");
                Phrase.between(firstAnd("1", width, sort), "== !=", firstAnd("0", width, sort), "01");
                Phrase.between(lastAnd("0", width, sort), "== !=", lastAnd("1", width, sort), "01");
                Phrase.between(firstAnd("1", width, "0"), "== !=", firstAnd("z", width, "0"), "xx");
                Phrase.between(lastAnd("x", width, "1"), "== !=", lastAnd("0", width, "1"), "xx");
            }
        }
        Phrase.between("x1", "== !=", row(62, "0") + "11", "xx");
        Phrase.between("s1x", "== !=", row(62, "0") + "11", "xx");
        Phrase.between("s1x", "== !=", "s" + row(62, "0") + "11", "01");
        Phrase.between("s1", "== !=", "s" + row(64, "1"), "10");
    }

    private static void theSameBits() {
        for (int width = 1; width <= 64; width++) {
            for (String left : SORTS) {
                for (String right : SORTS) {
                    for (String rest : new String[] {"0", "z"}) {
                        String want = left.equals(right) ? "10" : "01";
                        Phrase.between(firstAnd(left, width, rest), "=== !==", firstAnd(right, width, rest), want);
                        Phrase.between(lastAnd(left, width, rest), "=== !==", lastAnd(right, width, rest), want);
                    }
                }
            }
        }
        for (String sort : UNSURE) {
            Phrase.between("s" + sort, "=== !==", "s" + row(64, sort), "10");
            Phrase.between("s" + sort, "=== !==", row(64, sort), "01");
            Phrase.between("s" + sort, "=== !==", lastAnd(sort, 64, "0"), "10");
            Phrase.between(row(63, sort), "=== !==", "0" + row(63, sort), "10");
        }
        Phrase.between("s1", "=== !==", "1", "10");
    }

    private static void order() {
        for (int width = 1; width <= 64; width++) {
            String zeros = row(width, "0");
            String ones = row(width, "1");
            String least = firstAnd("1", width, "0");
            String greatest = firstAnd("0", width, "1");
            Phrase.between(zeros, "< <= > >=", ones, "1100");
            Phrase.between(ones, "< <= > >=", zeros, "0011");
            Phrase.between(ones, "< <= > >=", ones, "0101");
            Phrase.between("s" + ones, "< <= > >=", "s" + zeros, "1100");
            Phrase.between("s" + ones, "< <= > >=", zeros, "0011");
            Phrase.between("s" + least, "< <= > >=", "s" + greatest, "1100");
            Phrase.between("s" + greatest, "< <= > >=", "s" + least, "0011");
            Phrase.between(least, "< <= > >=", greatest, "0011");
            Phrase.between("s" + least, "< <= > >=", "s" + least, "0101");
        }
    }

    private static void orderWithUnsure() {
        for (int width : WIDTHS) {
            for (String sort : UNSURE) {
                for (String value : new String[] {firstAnd(sort, width, "0"), lastAnd(sort, width, "1")}) {
                    Phrase.between(value, "< <= > >=", row(width, "0"), "xxxx");
                    Phrase.between(row(width, "1"), "< <= > >=", value, "xxxx");
                    Phrase.between("s" + value, "< <= > >=", "s" + value, "xxxx");
                    Phrase.between("s0", "< <= > >=", value, "xxxx");
                }
            }
        }
    }

    private static void truth(String value, String truth) {
        Due.same("truth of " + value, Due.pile(value).told(0, 4), (long) "01x".indexOf(truth));
        String opposite = "10x".substring("01x".indexOf(truth), "01x".indexOf(truth) + 1);
        Phrase.gives("! " + value, opposite);
        Phrase.gives(value + " && 1", truth);
        Phrase.gives("0 || " + value, truth);
        Phrase.gives(value + " ? 01xz : 10xz", truth.equals("1") ? "01xz" : truth.equals("0") ? "10xz" : "xxxx");
    }

    private static void trueAndFalse() {
        for (int width = 1; width <= 64; width++) {
            truth(row(width, "0"), "0");
            truth("s" + row(width, "1"), "1");
            for (String sort : new String[] {"0", "x", "z"}) {
                truth(firstAnd("1", width, sort), "1");
                truth(lastAnd("1", width, sort), "1");
                truth("s" + firstAnd("x", width, sort), "x");
                truth(lastAnd("z", width, sort), "x");
            }
        }
    }

    private static void trueAndFalseWithX() {
        for (int width : WIDTHS) {
            for (String sort : UNSURE) {
                String unsure = firstAnd(sort, width, "0");
                String no = row(65 - width, "0");
                String yes = firstAnd("1", 65 - width, sort);
                Phrase.between(unsure, "&& ||", no, "0x");
                Phrase.between(no, "&& ||", unsure, "0x");
                Phrase.between(unsure, "&& ||", yes, "x1");
                Phrase.between("s" + yes, "&& ||", "s" + unsure, "x1");
                Phrase.between(unsure, "&& ||", unsure, "xx");
            }
            Phrase.between(row(width, "0"), "&& ||", "0", "00");
            Phrase.between(row(width, "1"), "&& ||", "0", "01");
            Phrase.between("0", "&& ||", row(width, "1"), "01");
            // Each is true by another bit.
            Phrase.between(firstAnd("1", width, "0"), "&& ||", "01", "11");
        }
    }

    private static void andBefore() {
        for (int width = 1; width <= 64; width++) {
            for (String rest : SORTS) {
                Phrase.before("&", firstAnd("0", width, rest), "0");
                Phrase.before("&", "s" + lastAnd("0", width, rest), "0");
            }
            Phrase.before("&", "s" + row(width, "1"), "1");
            for (String sort : UNSURE) {
                Phrase.before("&", firstAnd(sort, width, "1"), "x");
                Phrase.before("&", lastAnd(sort, width, "1"), "x");
            }
        }
    }

    private static void orBefore() {
        for (int width = 1; width <= 64; width++) {
            for (String rest : SORTS) {
                Phrase.before("|", firstAnd("1", width, rest), "1");
                Phrase.before("|", "s" + lastAnd("1", width, rest), "1");
            }
            Phrase.before("|", row(width, "0"), "0");
            for (String sort : UNSURE) {
                Phrase.before("|", firstAnd(sort, width, "0"), "x");
                Phrase.before("|", lastAnd(sort, width, "0"), "x");
            }
        }
    }

    private static void xorBefore() {
        for (int width = 1; width <= 64; width++) {
            Phrase.before("^", row(width, "0"), "0");
            Phrase.before("^", firstAnd("1", width, "0"), "1");
            Phrase.before("^", lastAnd("1", width, "0"), "1");
            Phrase.before("^", "s" + row(width, "1"), width % 2 == 1 ? "1" : "0");
            for (String sort : UNSURE) {
                for (String rest : SORTS) {
                    Phrase.before("^", firstAnd(sort, width, rest), "x");
                    Phrase.before("^", lastAnd(sort, width, rest), "x");
                }
            }
        }
    }

    private static void oppositesBefore() {
        for (int width = 1; width <= 64; width++) {
            boolean odd = width % 2 == 1;
            Phrase.before("~& ~| ~^", row(width, "0"), "111");
            Phrase.before("~& ~| ~^", "s" + row(width, "1"), odd ? "000" : "001");
            for (String sort : UNSURE) {
                Phrase.before("~& ~| ~^", row(width, sort), "xxx");
                if (width > 1) {
                    Phrase.before("~& ~| ~^", firstAnd(sort, width, "0"), "1xx");
                    Phrase.before("~& ~| ~^", "s" + lastAnd(sort, width, "1"), "x0x");
                }
            }
        }
    }
}
