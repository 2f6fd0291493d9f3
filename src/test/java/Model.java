import java.math.BigInteger;
import java.util.ArrayList;
import java.util.List;

/**
 * The document once more, for comparison: values are texts, highest bit first, and numbers are BigIntegers, so
 * that nothing of the program's own way of reckoning is used again.
 */
final class Model {
    record Value(String bits, boolean signed) {
        int width() {
            return bits.length();
        }

        boolean unsure() {
            return bits.contains("x") || bits.contains("z");
        }

        BigInteger number() {
            BigInteger plain = new BigInteger(bits, 2);
            return signed && bits.startsWith("1") ? plain.subtract(BigInteger.ONE.shiftLeft(width())) : plain;
        }

        char truth() {
            return bits.contains("1") ? '1' : unsure() ? 'x' : '0';
        }

        Value widened(int width, boolean highest) {
            String front = highest ? bits.substring(0, 1) : "0";
            return width <= width() ? new Value(bits.substring(width() - width), signed)
                : new Value(front.repeat(width - width()) + bits, signed);
        }
    }

    private final List<Value> pile = new ArrayList<>();
    private String text = "";

    private static void bad(boolean isBad) {
        if (isBad) {
            throw new IllegalArgumentException();
        }
    }

    private static void state(boolean isWrong) {
        if (isWrong) {
            throw new IllegalStateException();
        }
    }

    private Value take() {
        return pile.remove(pile.size() - 1);
    }

    private void give(String bits, boolean signed) {
        pile.add(new Value(bits, signed));
    }

    private static String ofNumber(BigInteger number, int width) {
        BigInteger cut = number.mod(BigInteger.ONE.shiftLeft(width));
        String digits = cut.toString(2);
        return "0".repeat(width - digits.length()) + digits;
    }

    int push(long ones, long unknown, int width, boolean signed) {
        bad(width < 1 || width > 64);
        state(pile.size() == 64);
        StringBuilder bits = new StringBuilder();
        for (int i = 0; i < width; i++) {
            boolean one = (ones >> i & 1) == 1;
            boolean odd = (unknown >> i & 1) == 1;
            bits.append(odd ? one ? 'x' : 'z' : one ? '1' : '0');
        }
        give(bits.reverse().toString(), signed);
        return pile.size();
    }

    void two(int sign) {
        bad(sign < 0 || sign > 18);
        state(pile.size() < 2);
        Value right = take();
        Value left = take();
        boolean signed = left.signed && right.signed;
        int width = Math.max(left.width(), right.width());
        Value a = new Value(left.widened(width, signed).bits, signed);
        Value b = new Value(right.widened(width, signed).bits, signed);
        if (sign < 5) {
            give(reckoned(sign, a, b), signed);
        } else if (sign < 9) {
            StringBuilder bits = new StringBuilder();
            for (int i = 0; i < width; i++) {
                bits.append(combined(sign, a.bits.charAt(i), b.bits.charAt(i)));
            }
            give(bits.toString(), signed);
        } else {
            give(String.valueOf(compared(sign, a, b)), false);
        }
    }

    private static String reckoned(int sign, Value a, Value b) {
        boolean byZero = sign >= 3 && !b.bits.contains("1");
        if (a.unsure() || b.unsure() || byZero) {
            return "x".repeat(a.width());
        }
        BigInteger left = a.number();
        BigInteger right = b.number();
        BigInteger result = switch (sign) {
            case 0 -> left.add(right);
            case 1 -> left.subtract(right);
            case 2 -> left.multiply(right);
            case 3 -> left.divide(right);
            default -> left.remainder(right);
        };
        return ofNumber(result, a.width());
    }

    /** For the signs & | ^ ~^, numbered as in two. */
    private static char combined(int sign, char left, char right) {
        boolean sure = (left == '0' || left == '1') && (right == '0' || right == '1');
        return switch (sign) {
            case 5 -> left == '0' || right == '0' ? '0' : sure ? '1' : 'x';
            case 6 -> left == '1' || right == '1' ? '1' : sure ? '0' : 'x';
            case 7 -> !sure ? 'x' : left != right ? '1' : '0';
            default -> !sure ? 'x' : left == right ? '1' : '0';
        };
    }

    private static char not(char bit) {
        return bit == '0' ? '1' : bit == '1' ? '0' : 'x';
    }

    private static char of(boolean truth) {
        return truth ? '1' : '0';
    }

    private static char equal(Value a, Value b) {
        for (int i = 0; i < a.width(); i++) {
            String pair = "" + a.bits.charAt(i) + b.bits.charAt(i);
            if (pair.equals("01") || pair.equals("10")) {
                return '0';
            }
        }
        return a.unsure() || b.unsure() ? 'x' : '1';
    }

    private static char compared(int sign, Value a, Value b) {
        if (sign >= 13 && sign <= 16) {
            if (a.unsure() || b.unsure()) {
                return 'x';
            }
            int order = a.number().compareTo(b.number());
            return of(sign == 13 ? order < 0 : sign == 14 ? order <= 0 : sign == 15 ? order > 0 : order >= 0);
        }
        return switch (sign) {
            case 9 -> equal(a, b);
            case 10 -> not(equal(a, b));
            case 11 -> of(a.bits.equals(b.bits));
            case 12 -> of(!a.bits.equals(b.bits));
            case 17 -> combined(5, a.truth(), b.truth());
            default -> combined(6, a.truth(), b.truth());
        };
    }

    void shift(int how) {
        bad(how < 0 || how > 3);
        state(pile.size() < 2);
        Value n = take();
        Value a = take();
        int width = a.width();
        if (n.unsure()) {
            give("x".repeat(width), a.signed);
            return;
        }
        int by = new BigInteger(n.bits, 2).min(BigInteger.valueOf(width)).intValue();
        String front = how == 3 && a.signed ? a.bits.substring(0, 1) : "0";
        boolean left = how % 2 == 0;
        give(left ? a.bits.substring(by) + "0".repeat(by) : front.repeat(by) + a.bits.substring(0, width - by),
            a.signed);
    }

    void one(int sign) {
        bad(sign < 0 || sign > 8);
        state(pile.isEmpty());
        Value a = take();
        if (sign == 0) {
            give(a.unsure() ? "x".repeat(a.width()) : ofNumber(a.number().negate(), a.width()), a.signed);
        } else if (sign == 1) {
            StringBuilder bits = new StringBuilder();
            for (char bit : a.bits.toCharArray()) {
                bits.append(not(bit));
            }
            give(bits.toString(), a.signed);
        } else {
            give(String.valueOf(reduced(sign, a)), false);
        }
    }

    private static char reduced(int sign, Value a) {
        if (sign == 2) {
            return not(a.truth());
        }
        boolean opposite = sign % 2 == 0;
        int fold = sign <= 4 ? 5 : sign <= 6 ? 6 : 7;
        char result = fold == 5 ? '1' : '0';
        for (char bit : a.bits.toCharArray()) {
            result = combined(fold, result, bit);
        }
        return opposite ? not(result) : result;
    }

    void choose() {
        state(pile.size() < 3);
        Value right = take();
        Value left = take();
        char truth = take().truth();
        boolean signed = left.signed && right.signed;
        int width = Math.max(left.width(), right.width());
        String a = left.widened(width, signed).bits;
        String b = right.widened(width, signed).bits;
        StringBuilder mixed = new StringBuilder();
        for (int i = 0; i < width; i++) {
            char bit = a.charAt(i);
            mixed.append(bit == b.charAt(i) && bit != 'z' ? bit : 'x');
        }
        give(truth == '1' ? a : truth == '0' ? b : mixed.toString(), signed);
    }

    void join() {
        state(pile.size() < 2);
        bad(pile.get(pile.size() - 1).width() + pile.get(pile.size() - 2).width() > 64);
        Value b = take();
        give(take().bits + b.bits, false);
    }

    void copies(int n) {
        bad(n < 1);
        state(pile.isEmpty());
        bad((long) n * pile.get(pile.size() - 1).width() > 64);
        give(take().bits.repeat(n), false);
    }

    void part(int h, int l) {
        bad(l < 0 || h < l);
        state(pile.isEmpty());
        bad(h >= pile.get(pile.size() - 1).width());
        String bits = take().bits;
        give(bits.substring(bits.length() - 1 - h, bits.length() - l), false);
    }

    void bit() {
        state(pile.size() < 2);
        Value i = take();
        String a = take().bits;
        boolean there = !i.unsure() && i.number().signum() >= 0
            && i.number().compareTo(BigInteger.valueOf(a.length())) < 0;
        give(there ? String.valueOf(a.charAt(a.length() - 1 - i.number().intValue())) : "x", false);
    }

    void as(int width, boolean signed) {
        bad(width < 1 || width > 64);
        state(pile.isEmpty());
        Value a = take();
        give(a.widened(width, a.signed).bits, signed);
    }

    void again(int i) {
        bad(i < 0);
        state(i >= pile.size() || pile.size() == 64);
        pile.add(pile.get(pile.size() - 1 - i));
    }

    int text(int form, boolean brief) {
        bad(form < 0 || form > 2);
        state(pile.isEmpty());
        Value a = take();
        String plain = form == 0 ? a.bits : form == 1 ? fours(a.bits) : decimal(a);
        text = brief ? plain.replaceFirst(form == 2 ? "^ +" : "^0+(?=.)", "") : plain;
        return text.length();
    }

    private static String group(String bits, String plain) {
        if (bits.matches("x+|z+")) {
            return bits.substring(0, 1);
        }
        return bits.contains("x") ? "X" : bits.contains("z") ? "Z" : plain;
    }

    private static String fours(String bits) {
        StringBuilder letters = new StringBuilder();
        for (int end = bits.length(); end > 0; end -= 4) {
            String four = bits.substring(Math.max(0, end - 4), end);
            String digit = four.matches("[01]+") ? Integer.toHexString(Integer.parseInt(four, 2)) : "";
            letters.insert(0, group(four, digit));
        }
        return letters.toString();
    }

    private static String decimal(Value a) {
        int exponent = a.signed ? a.width() - 1 : a.width();
        BigInteger greatest = BigInteger.ONE.shiftLeft(exponent).subtract(BigInteger.ONE);
        int columns = greatest.toString().length() + (a.signed ? 1 : 0);
        String letters = group(a.bits, a.unsure() ? "" : a.number().toString());
        return " ".repeat(columns - letters.length()) + letters;
    }

    int letter(int i) {
        if (i < 0 || i >= text.length()) {
            throw new IndexOutOfBoundsException();
        }
        return text.charAt(i);
    }

    long told(int i, int what) {
        bad(what < 0 || what > 4);
        state(i < 0 || i >= pile.size());
        Value a = pile.get(pile.size() - 1 - i);
        return switch (what) {
            case 0 -> new BigInteger(a.bits.replace('x', '1').replace('z', '0'), 2).longValue();
            case 1 -> new BigInteger(a.bits.replace('1', '0').replaceAll("[xz]", "1"), 2).longValue();
            case 2 -> a.width();
            case 3 -> a.signed ? 1 : 0;
            default -> "01x".indexOf(a.truth());
        };
    }

    int count(int what) {
        return what == 0 ? pile.size() : what == 1 ? text.length() : -1;
    }
}
