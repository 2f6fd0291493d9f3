/**
 * Reckons with words of bits of four sorts: 0, 1, x (not known) and z (not driven).
 *
 * A bit stands in two rows, the way push is given it: 1 is in ones alone, z in unknown alone, x in both, 0 in
 * neither. Bits above a value's width are kept 0 in both rows, so that rows can be compared whole.
 */
public final class FourWords {
    private static final int ROOM = 64;
    private static final int WIDEST = 64;

    private static final int PLUS = 0;
    private static final int MINUS = 1;
    private static final int TIMES = 2;
    private static final int DIVIDE = 3;
    private static final int REMAINDER = 4;
    private static final int AND = 5;
    private static final int OR = 6;
    private static final int XOR = 7;
    private static final int SAME_BITS = 8;
    private static final int EQUAL = 9;
    private static final int NOT_EQUAL = 10;
    private static final int IDENTICAL = 11;
    private static final int NOT_IDENTICAL = 12;
    private static final int LESS = 13;
    private static final int LESS_OR_EQUAL = 14;
    private static final int GREATER = 15;
    private static final int GREATER_OR_EQUAL = 16;
    private static final int BOTH_TRUE = 17;
    private static final int ONE_TRUE = 18;

    private static final int SHIFT_RIGHT = 1;
    private static final int SHIFT_RIGHT_SIGNED = 3;

    private static final int NEGATE = 0;
    private static final int INVERT = 1;
    private static final int IS_FALSE = 2;
    private static final int ALL_ONES = 3;
    private static final int NOT_ALL_ONES = 4;
    private static final int ANY_ONE = 5;
    private static final int NO_ONE = 6;
    private static final int ODD_ONES = 7;
    private static final int EVEN_ONES = 8;

    private static final int FORM_BITS = 0;
    private static final int FORM_NUMBER = 2;

    private static final int TOLD_ONES = 0;
    private static final int TOLD_UNKNOWN = 1;
    private static final int TOLD_WIDTH = 2;
    private static final int TOLD_SIGNED = 3;
    private static final int TOLD_TRUTH = 4;

    private static final int FALSE = 0;
    private static final int TRUE = 1;
    private static final int UNSURE = 2;

    private final long[] onesRow = new long[ROOM];
    private final long[] unknownRow = new long[ROOM];
    private final int[] widthRow = new int[ROOM];
    private final boolean[] signedRow = new boolean[ROOM];
    private final Line line = new Line();
    private int size = 0;

    public FourWords() {
    }

    public int push(long ones, long unknown, int width, boolean signed)
            throws IllegalArgumentException, IllegalStateException {
        demandRange(width, 1, WIDEST);
        demandRoom();
        setValue(size, ones, unknown, width, signed);
        size++;
        return size;
    }

    public void two(int sign) throws IllegalArgumentException, IllegalStateException {
        demandRange(sign, PLUS, ONE_TRUE);
        demandValues(2);
        int a = size - 2;
        int b = size - 1;
        bringTogether(a, b);
        if (sign <= REMAINDER) {
            reckon(sign, a, b);
        } else if (sign <= SAME_BITS) {
            combine(sign, a, b);
        } else {
            setTruth(a, compared(sign, a, b));
        }
        size--;
    }

    public void shift(int how) throws IllegalArgumentException, IllegalStateException {
        demandRange(how, 0, SHIFT_RIGHT_SIGNED);
        demandValues(2);
        int a = size - 2;
        int n = size - 1;
        if (unknownRow[n] != 0) {
            fillWithX(a);
        } else if (how == SHIFT_RIGHT || how == SHIFT_RIGHT_SIGNED) {
            moveRight(a, onesRow[n], how == SHIFT_RIGHT_SIGNED && signedRow[a]);
        } else {
            moveLeft(a, onesRow[n]);
        }
        size--;
    }

    public void one(int sign) throws IllegalArgumentException, IllegalStateException {
        demandRange(sign, NEGATE, EVEN_ONES);
        demandValues(1);
        int a = size - 1;
        if (sign == NEGATE) {
            negate(a);
        } else if (sign == INVERT) {
            setSure(a, sureZeros(a), sureOnes(a));
        } else {
            setTruth(a, reduced(sign, a));
        }
    }

    public void choose() throws IllegalStateException {
        demandValues(3);
        int c = size - 3;
        int a = size - 2;
        int b = size - 1;
        bringTogether(a, b);
        int truth = anyOne(c);
        if (truth == UNSURE) {
            setSure(a, sureOnes(a) & sureOnes(b), sureZeros(a) & sureZeros(b));
        }
        copyValue(truth == FALSE ? b : a, c);
        size -= 2;
    }

    public void join() throws IllegalArgumentException, IllegalStateException {
        demandValues(2);
        int a = size - 2;
        int b = size - 1;
        int behind = widthRow[b];
        int together = widthRow[a] + behind;
        demandRange(together, 1, WIDEST);
        setValue(a, onesRow[a] << behind | onesRow[b], unknownRow[a] << behind | unknownRow[b], together, false);
        size--;
    }

    public void copies(int n) throws IllegalArgumentException, IllegalStateException {
        demandRange(n, 1, Integer.MAX_VALUE);
        demandValues(1);
        int a = size - 1;
        int width = widthRow[a];
        // No value takes more copies than a bit does; behind that look the product can't wrap round.
        demandRange(n, 1, WIDEST);
        demandRange(n * width, 1, WIDEST);
        long ones = onesRow[a];
        long unknown = unknownRow[a];
        for (int i = 1; i < n; i++) {
            ones = ones << width | onesRow[a];
            unknown = unknown << width | unknownRow[a];
        }
        setValue(a, ones, unknown, n * width, false);
    }

    public void part(int h, int l) throws IllegalArgumentException, IllegalStateException {
        demandRange(l, 0, h);
        demandValues(1);
        int a = size - 1;
        demandRange(h, 0, widthRow[a] - 1);
        setValue(a, onesRow[a] >>> l, unknownRow[a] >>> l, h - l + 1, false);
    }

    public void bit() throws IllegalStateException {
        demandValues(2);
        int a = size - 2;
        int i = size - 1;
        // A number without sign of 2^63 or more is below 0 as a long: not there either way.
        long index = number(i);
        if (unknownRow[i] != 0 || index < 0 || index >= widthRow[a]) {
            setTruth(a, UNSURE);
        } else {
            setValue(a, onesRow[a] >>> (int) index, unknownRow[a] >>> (int) index, 1, false);
        }
        size--;
    }

    public void as(int width, boolean signed) throws IllegalArgumentException, IllegalStateException {
        demandRange(width, 1, WIDEST);
        demandValues(1);
        int a = size - 1;
        setWidth(a, width, signedRow[a]);
        signedRow[a] = signed;
    }

    public void again(int i) throws IllegalArgumentException, IllegalStateException {
        demandRange(i, 0, Integer.MAX_VALUE);
        demandPlace(i);
        demandRoom();
        copyValue(size - 1 - i, size);
        size++;
    }

    public int text(int form, boolean brief) throws IllegalArgumentException, IllegalStateException {
        demandRange(form, FORM_BITS, FORM_NUMBER);
        demandValues(1);
        int a = size - 1;
        line.clear();
        if (form == FORM_NUMBER) {
            writeNumber(a, brief);
        } else {
            writeGroups(a, form == FORM_BITS ? 0 : 2, brief);
        }
        size--;
        return line.length;
    }

    public int letter(int i) throws IndexOutOfBoundsException {
        if (i < 0 || i >= line.length) {
            throw new IndexOutOfBoundsException("no such byte of the text");
        }
        return line.letters[i];
    }

    public long told(int i, int what) throws IllegalArgumentException, IllegalStateException {
        demandRange(what, TOLD_ONES, TOLD_TRUTH);
        demandPlace(i);
        int place = size - 1 - i;
        switch (what) {
            case TOLD_ONES:
                return onesRow[place];
            case TOLD_UNKNOWN:
                return unknownRow[place];
            case TOLD_WIDTH:
                return widthRow[place];
            case TOLD_SIGNED:
                return signedRow[place] ? 1 : 0;
            default:
                return anyOne(place);
        }
    }

    public int count(int what) {
        if (what == 0) {
            return size;
        }
        return what == 1 ? line.length : -1;
    }

    private static void demandRange(int number, int least, int greatest) {
        if (number < least || number > greatest) {
            throw new IllegalArgumentException("number out of range");
        }
    }

    private void demandValues(int needed) {
        if (size < needed) {
            throw new IllegalStateException("too few values on the pile");
        }
    }

    private void demandPlace(int above) {
        if (above < 0 || above >= size) {
            throw new IllegalStateException("no such value on the pile");
        }
    }

    private void demandRoom() {
        if (size >= ROOM) {
            throw new IllegalStateException("no room on the pile");
        }
    }

    private void setValue(int place, long ones, long unknown, int width, boolean signed) {
        widthRow[place] = width;
        signedRow[place] = signed;
        setBits(place, ones, unknown);
    }

    private void setBits(int place, long ones, long unknown) {
        long all = Bits.lowest(widthRow[place]);
        onesRow[place] = ones & all;
        unknownRow[place] = unknown & all;
    }

    /** Bits that are in neither of the two become x. */
    private void setSure(int place, long sureOnes, long sureZeros) {
        setBits(place, ~sureZeros, ~(sureOnes | sureZeros));
    }

    private void setTruth(int place, int truth) {
        setValue(place, truth == FALSE ? 0 : 1, truth == UNSURE ? 1 : 0, 1, false);
    }

    private void fillWithX(int place) {
        setBits(place, -1L, -1L);
    }

    private void copyValue(int from, int to) {
        setValue(to, onesRow[from], unknownRow[from], widthRow[from], signedRow[from]);
    }

    private void setWidth(int place, int width, boolean highestInFront) {
        long ones = onesRow[place];
        long unknown = unknownRow[place];
        if (highestInFront) {
            ones = Bits.withHighestInFront(ones, widthRow[place]);
            unknown = Bits.withHighestInFront(unknown, widthRow[place]);
        }
        widthRow[place] = width;
        setBits(place, ones, unknown);
    }

    private void bringTogether(int a, int b) {
        boolean signed = signedRow[a] && signedRow[b];
        int width = Math.max(widthRow[a], widthRow[b]);
        setWidth(a, width, signed);
        setWidth(b, width, signed);
        signedRow[a] = signed;
        signedRow[b] = signed;
    }

    private long sureOnes(int place) {
        return onesRow[place] & ~unknownRow[place];
    }

    private long sureZeros(int place) {
        return ~(onesRow[place] | unknownRow[place]) & Bits.lowest(widthRow[place]);
    }

    /** Tells what the value counts, if it has no x or z; one without sign of 2^63 or more is below 0 here. */
    private long number(int place) {
        return signedRow[place] ? Bits.withHighestInFront(onesRow[place], widthRow[place]) : onesRow[place];
    }

    private void reckon(int sign, int a, int b) {
        long left = number(a);
        long right = number(b);
        boolean divides = sign == DIVIDE || sign == REMAINDER;
        if ((unknownRow[a] | unknownRow[b]) != 0 || (divides && right == 0)) {
            fillWithX(a);
            return;
        }
        switch (sign) {
            case PLUS:
                setBits(a, left + right, 0);
                break;
            case MINUS:
                setBits(a, left - right, 0);
                break;
            case TIMES:
                setBits(a, left * right, 0);
                break;
            default:
                long quotient = signedRow[a] ? left / right : Bits.quotient(left, right);
                setBits(a, sign == DIVIDE ? quotient : left - quotient * right, 0);
                break;
        }
    }

    private void combine(int sign, int a, int b) {
        long onesA = sureOnes(a);
        long onesB = sureOnes(b);
        long zerosA = sureZeros(a);
        long zerosB = sureZeros(b);
        long differ = (onesA & zerosB) | (zerosA & onesB);
        long agree = (onesA & onesB) | (zerosA & zerosB);
        switch (sign) {
            case AND:
                setSure(a, onesA & onesB, zerosA | zerosB);
                break;
            case OR:
                setSure(a, onesA | onesB, zerosA & zerosB);
                break;
            case XOR:
                setSure(a, differ, agree);
                break;
            default:
                setSure(a, agree, differ);
                break;
        }
    }

    private int compared(int sign, int a, int b) {
        switch (sign) {
            case EQUAL:
                return equal(a, b);
            case NOT_EQUAL:
                return opposite(equal(a, b));
            case IDENTICAL:
                return identical(a, b);
            case NOT_IDENTICAL:
                return opposite(identical(a, b));
            case LESS:
                return less(a, b);
            case LESS_OR_EQUAL:
                return opposite(less(b, a));
            case GREATER:
                return less(b, a);
            case GREATER_OR_EQUAL:
                return opposite(less(a, b));
            case BOTH_TRUE:
                return bothTrue(anyOne(a), anyOne(b));
            default:
                return opposite(bothTrue(opposite(anyOne(a)), opposite(anyOne(b))));
        }
    }

    private int equal(int a, int b) {
        if (((sureOnes(a) & sureZeros(b)) | (sureZeros(a) & sureOnes(b))) != 0) {
            return FALSE;
        }
        return (unknownRow[a] | unknownRow[b]) != 0 ? UNSURE : TRUE;
    }

    private int identical(int a, int b) {
        return onesRow[a] == onesRow[b] && unknownRow[a] == unknownRow[b] ? TRUE : FALSE;
    }

    private int less(int a, int b) {
        if ((unknownRow[a] | unknownRow[b]) != 0) {
            return UNSURE;
        }
        boolean below = signedRow[a] ? number(a) < number(b) : Bits.below(onesRow[a], onesRow[b]);
        return below ? TRUE : FALSE;
    }

    private static int bothTrue(int left, int right) {
        if (left == FALSE || right == FALSE) {
            return FALSE;
        }
        return left == TRUE && right == TRUE ? TRUE : UNSURE;
    }

    private static int opposite(int truth) {
        if (truth == UNSURE) {
            return UNSURE;
        }
        return truth == TRUE ? FALSE : TRUE;
    }

    private int reduced(int sign, int a) {
        switch (sign) {
            case ALL_ONES:
                return allOnes(a);
            case NOT_ALL_ONES:
                return opposite(allOnes(a));
            case ANY_ONE:
                return anyOne(a);
            case IS_FALSE:
            case NO_ONE:
                return opposite(anyOne(a));
            case ODD_ONES:
                return oddOnes(a);
            default:
                return opposite(oddOnes(a));
        }
    }

    private int allOnes(int place) {
        if (sureZeros(place) != 0) {
            return FALSE;
        }
        return unknownRow[place] != 0 ? UNSURE : TRUE;
    }

    /** Serves for the truth of a value, too: the document's words for it are those for | before it. */
    private int anyOne(int place) {
        if (sureOnes(place) != 0) {
            return TRUE;
        }
        return unknownRow[place] != 0 ? UNSURE : FALSE;
    }

    private int oddOnes(int place) {
        if (unknownRow[place] != 0) {
            return UNSURE;
        }
        return Long.bitCount(onesRow[place]) % 2 == 1 ? TRUE : FALSE;
    }

    private void negate(int place) {
        if (unknownRow[place] != 0) {
            fillWithX(place);
        } else {
            setBits(place, -onesRow[place], 0);
        }
    }

    private void moveLeft(int place, long by) {
        // Java shifts a long by the lowest six bits of the count alone.
        if (!Bits.below(by, WIDEST)) {
            setBits(place, 0, 0);
        } else {
            setBits(place, onesRow[place] << (int) by, unknownRow[place] << (int) by);
        }
    }

    private void moveRight(int place, long by, boolean highestInFront) {
        if (highestInFront) {
            // Behind 63 places a long holds its highest bit alone, as it would behind any more.
            int places = Bits.below(by, WIDEST) ? (int) by : WIDEST - 1;
            int width = widthRow[place];
            setBits(place, Bits.withHighestInFront(onesRow[place], width) >> places,
                    Bits.withHighestInFront(unknownRow[place], width) >> places);
        } else if (!Bits.below(by, WIDEST)) {
            setBits(place, 0, 0);
        } else {
            setBits(place, onesRow[place] >>> (int) by, unknownRow[place] >>> (int) by);
        }
    }

    /** Each letter stands for 2^power bits, the first for fewer if the width leaves fewer. */
    private void writeGroups(int place, int power, boolean brief) {
        int width = widthRow[place];
        for (int group = width - 1 >> power; group >= 0; group--) {
            int low = group << power;
            long all = Bits.lowest(Math.min(1 << power, width - low));
            char letter = groupLetter(onesRow[place] >>> low & all, unknownRow[place] >>> low & all, all);
            boolean leadingZero = letter == '0' && line.length == 0 && group > 0;
            if (!brief || !leadingZero) {
                line.write(letter);
            }
        }
    }

    private static char groupLetter(long ones, long unknown, long all) {
        if (unknown != 0) {
            return unknownLetter(ones, unknown, all);
        }
        return (char) (ones < 10 ? '0' + ones : 'a' + ones - 10);
    }

    private static char unknownLetter(long ones, long unknown, long all) {
        if (unknown == all && ones == all) {
            return 'x';
        }
        if (unknown == all && ones == 0) {
            return 'z';
        }
        return (ones & unknown) != 0 ? 'X' : 'Z';
    }

    private void writeNumber(int place, boolean brief) {
        long all = Bits.lowest(widthRow[place]);
        boolean signed = signedRow[place];
        int columns = 0;
        if (!brief) {
            columns = signed ? Bits.digits(all >>> 1) + 1 : Bits.digits(all);
        }
        if (unknownRow[place] != 0) {
            line.writeSpaces(columns - 1);
            line.write(unknownLetter(onesRow[place], unknownRow[place], all));
            return;
        }
        long number = number(place);
        boolean negative = signed && number < 0;
        long magnitude = negative ? -number : number;
        int digits = Bits.digits(magnitude);
        line.writeSpaces(columns - digits - (negative ? 1 : 0));
        if (negative) {
            line.write('-');
        }
        line.writeDigits(magnitude, digits);
    }

    /** Longs as 64 bits without sign, where Java's own signs would take them with it. */
    private static final class Bits {
        private static final int MOST_DIGITS = 20;

        private static long lowest(int width) {
            return -1L >>> (64 - width);
        }

        private static long withHighestInFront(long bits, int width) {
            return bits << (64 - width) >> (64 - width);
        }

        private static boolean below(long a, long b) {
            return a + Long.MIN_VALUE < b + Long.MIN_VALUE;
        }

        /** No caller divides by 0, but this look keeps it from Java's own division all the same. */
        private static long quotient(long a, long divisor) {
            if (divisor <= 0) {
                return below(a, divisor) ? 0 : 1;
            }
            // Half of a is never negative, so Java can divide it; twice that quotient is at most 1 too small.
            long nearly = (a >>> 1) / divisor << 1;
            return below(a - nearly * divisor, divisor) ? nearly : nearly + 1;
        }

        private static int digits(long number) {
            long rest = number;
            for (int digits = 1; digits < MOST_DIGITS; digits++) {
                rest = quotient(rest, 10);
                if (rest == 0) {
                    return digits;
                }
            }
            return MOST_DIGITS;
        }
    }

    /** The text: its row is made once and written anew by each call. */
    private static final class Line {
        private final byte[] letters = new byte[WIDEST];
        private int length = 0;

        private void clear() {
            length = 0;
        }

        private void write(char letter) {
            letters[length] = (byte) letter;
            length++;
        }

        private void writeSpaces(int spaces) {
            for (int i = 0; i < spaces; i++) {
                write(' ');
            }
        }

        private void writeDigits(long number, int digits) {
            long rest = number;
            for (int i = length + digits - 1; i >= length; i--) {
                long tenth = Bits.quotient(rest, 10);
                letters[i] = (byte) ('0' + rest - tenth * 10);
                rest = tenth;
            }
            length += digits;
        }
    }
}
