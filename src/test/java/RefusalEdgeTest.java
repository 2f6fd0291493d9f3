import java.util.ArrayList;
import java.util.List;
import java.util.function.Consumer;

/** The sentences of "Terms" on what is refused: a test for each, with every call and every number that has a range. */
public final class RefusalEdgeTest {
    private static final int[] BELOW = {Integer.MIN_VALUE, Integer.MIN_VALUE + 1, -65, -64, -2, -1};
    private static final int[] SIZES = {0, 1, 2, 3, 63, 64};

    record Call(String name, Consumer<FourWords> call) {
    }

    public static void main(String[] args) {
        Due.holds("\"Bad\" is IllegalArgumentException: a number out of range, before all",
            RefusalEdgeTest::badBeforeAll);
        Due.holds("what is bad by the VALUES themselves, in join, copies and part, comes behind too few of them",
            RefusalEdgeTest::badByTheValues);
        Due.holds("Too few VALUES on the PILE .. : IllegalStateException", RefusalEdgeTest::tooFewValues);
        Due.holds("or no room: IllegalStateException", RefusalEdgeTest::noRoom);
        Due.holds("A refused call changes nothing", RefusalEdgeTest::changesNothing);
        Due.end();
    }

    /** A pile of so many values of all sorts, and a text: both could be changed by a refused call. */
    private static FourWords pile(int size) {
        FourWords words = Due.pile("x10z");
        words.text(0, false);
        for (int i = 1; i <= size; i++) {
            words.push(0x8421_8421_8421_8421L * i, 0x1248_0000_0000_0001L * i, 65 - i, i % 2 == 0);
        }
        return words;
    }

    private static void refused(List<Call> calls, int size, Class<?> kind) {
        for (Call call : calls) {
            String thrown = Due.thrown(pile(size), call.call);
            Due.same(call.name + " on " + size + " values throws", thrown, kind.getSimpleName());
        }
    }

    /** Two piles made alike are read once each, as one would not last for both in its 512 calls. */
    private static void unchanged(List<Call> calls, int size) {
        String before = Due.state(pile(size));
        for (Call call : calls) {
            FourWords words = pile(size);
            Due.thrown(words, call.call);
            Due.same(call.name + " on " + size + " values leaves", Due.state(words), before);
        }
    }

    /** Numbers below the range and above it, the next ones and the farthest ones. */
    private static List<Integer> outside(int least, int greatest) {
        List<Integer> numbers = new ArrayList<>();
        for (int number : BELOW) {
            numbers.add(number);
        }
        if (least == 1) {
            numbers.add(0);
        }
        if (greatest < Integer.MAX_VALUE) {
            for (int number : new int[] {greatest + 1, greatest + 2, greatest + 64, 256, 65536, Integer.MAX_VALUE}) {
                numbers.add(number);
            }
        }
        return numbers;
    }

    private static List<Call> badByNumber() {
        List<Call> calls = new ArrayList<>();
        for (int n : outside(1, 64)) {
            calls.add(new Call("push(1, 2, " + n + ", true)", w -> w.push(1, 2, n, true)));
            calls.add(new Call("as(" + n + ", false)", w -> w.as(n, false)));
            calls.add(new Call("as(" + n + ", true)", w -> w.as(n, true)));
        }
        for (int n : outside(0, 18)) {
            calls.add(new Call("two(" + n + ")", w -> w.two(n)));
        }
        for (int n : outside(0, 3)) {
            calls.add(new Call("shift(" + n + ")", w -> w.shift(n)));
        }
        for (int n : outside(0, 8)) {
            calls.add(new Call("one(" + n + ")", w -> w.one(n)));
        }
        for (int n : outside(1, Integer.MAX_VALUE)) {
            calls.add(new Call("copies(" + n + ")", w -> w.copies(n)));
        }
        for (int n : outside(0, Integer.MAX_VALUE)) {
            calls.add(new Call("part(0, " + n + ")", w -> w.part(0, n)));
            calls.add(new Call("part(" + n + ", " + n + ")", w -> w.part(n, n)));
            calls.add(new Call("part(" + n + ", 0)", w -> w.part(n, 0)));
            calls.add(new Call("part(2147483647, " + n + ")", w -> w.part(Integer.MAX_VALUE, n)));
            calls.add(new Call("again(" + n + ")", w -> w.again(n)));
        }
        for (int n : new int[] {0, 1, 62, 63, 64, Integer.MAX_VALUE - 1}) {
            calls.add(new Call("part(" + n + ", " + (n + 1) + ")", w -> w.part(n, n + 1)));
            calls.add(new Call("part(" + n + ", 2147483647)", w -> w.part(n, Integer.MAX_VALUE)));
        }
        for (int n : outside(0, 2)) {
            calls.add(new Call("text(" + n + ", false)", w -> w.text(n, false)));
            calls.add(new Call("text(" + n + ", true)", w -> w.text(n, true)));
        }
        for (int n : outside(0, 4)) {
            for (int i : new int[] {Integer.MIN_VALUE, -1, 0, 1, 63, 64, Integer.MAX_VALUE}) {
                calls.add(new Call("told(" + i + ", " + n + ")", w -> w.told(i, n)));
            }
        }
        return calls;
    }

    private static void badBeforeAll() {
        for (int size : SIZES) {
            refused(badByNumber(), size, IllegalArgumentException.class);
        }
    }

    /** Calls whose numbers are in range and which no width allows. */
    private static List<Call> badByValues() {
        List<Call> calls = new ArrayList<>();
        for (int n : new int[] {65, 66, 1 << 26, 1 << 30, (1 << 30) + 1, Integer.MAX_VALUE}) {
            calls.add(new Call("copies(" + n + ")", w -> w.copies(n)));
        }
        for (int h : new int[] {64, 65, 127, 128, Integer.MAX_VALUE}) {
            for (int l : new int[] {0, 1, 63, 64}) {
                calls.add(new Call("part(" + h + ", " + l + ")", w -> w.part(h, l)));
            }
            calls.add(new Call("part(" + h + ", " + h + ")", w -> w.part(h, h)));
        }
        return calls;
    }

    private static void badByTheValues() {
        refused(badByValues(), 0, IllegalStateException.class);
        for (int size : new int[] {1, 2, 63, 64}) {
            refused(badByValues(), size, IllegalArgumentException.class);
        }
        refused(joining(), 0, IllegalStateException.class);
        refused(joining(), 1, IllegalStateException.class);
        // The two on top have 64 and 63 bits, then 63 and 62.
        refused(joining(), 2, IllegalArgumentException.class);
        refused(joining(), 3, IllegalArgumentException.class);
    }

    private static List<Call> joining() {
        return List.of(new Call("join()", w -> w.join()));
    }

    private static List<Call> takingOne() {
        List<Call> calls = new ArrayList<>();
        for (int i = 0; i <= 8; i++) {
            int sign = i;
            calls.add(new Call("one(" + sign + ")", w -> w.one(sign)));
        }
        for (int n : new int[] {1, 2, 64}) {
            calls.add(new Call("copies(" + n + ")", w -> w.copies(n)));
            calls.add(new Call("as(" + n + ", true)", w -> w.as(n, true)));
            calls.add(new Call("part(" + (n - 1) + ", 0)", w -> w.part(n - 1, 0)));
        }
        for (int i = 0; i <= 2; i++) {
            int form = i;
            calls.add(new Call("text(" + form + ", false)", w -> w.text(form, false)));
            calls.add(new Call("text(" + form + ", true)", w -> w.text(form, true)));
        }
        return calls;
    }

    private static List<Call> takingTwo() {
        List<Call> calls = new ArrayList<>();
        for (int i = 0; i <= 18; i++) {
            int sign = i;
            calls.add(new Call("two(" + sign + ")", w -> w.two(sign)));
        }
        for (int i = 0; i <= 3; i++) {
            int how = i;
            calls.add(new Call("shift(" + how + ")", w -> w.shift(how)));
        }
        calls.add(new Call("join()", w -> w.join()));
        calls.add(new Call("bit()", w -> w.bit()));
        return calls;
    }

    private static List<Call> takingThree() {
        return List.of(new Call("choose()", w -> w.choose()));
    }

    /** Calls on a value that so large a pile does not have. */
    private static List<Call> notThere(int size) {
        List<Call> calls = new ArrayList<>();
        for (int i : new int[] {size, size + 1, 65, 127, Integer.MAX_VALUE - 1, Integer.MAX_VALUE}) {
            calls.add(new Call("again(" + i + ")", w -> w.again(i)));
            calls.addAll(told(i));
        }
        for (int i : BELOW) {
            calls.addAll(told(i));
        }
        return calls;
    }

    private static List<Call> told(int i) {
        List<Call> calls = new ArrayList<>();
        for (int k = 0; k <= 4; k++) {
            int what = k;
            calls.add(new Call("told(" + i + ", " + what + ")", w -> w.told(i, what)));
        }
        return calls;
    }

    private static List<Call> tooMuchFor(int size) {
        List<Call> calls = new ArrayList<>(notThere(size));
        if (size < 3) {
            calls.addAll(takingThree());
        }
        if (size < 2) {
            calls.addAll(takingTwo());
        }
        if (size < 1) {
            calls.addAll(takingOne());
        }
        return calls;
    }

    private static void tooFewValues() {
        for (int size : SIZES) {
            refused(tooMuchFor(size), size, IllegalStateException.class);
        }
        Due.same("two of two", Due.thrown(pile(2), w -> w.two(0)), "nothing");
        Due.same("choose of three", Due.thrown(pile(3), w -> w.choose()), "nothing");
        Due.same("one of one", Due.thrown(pile(1), w -> w.one(0)), "nothing");
    }

    private static List<Call> puttingOne() {
        List<Call> calls = new ArrayList<>();
        for (int width : new int[] {1, 2, 63, 64}) {
            calls.add(new Call("push(-1, 0, " + width + ", true)", w -> w.push(-1, 0, width, true)));
        }
        for (int i : new int[] {0, 1, 62}) {
            calls.add(new Call("again(" + i + ")", w -> w.again(i)));
        }
        return calls;
    }

    private static void noRoom() {
        refused(puttingOne(), 64, IllegalStateException.class);
        refused(List.of(new Call("again(63)", w -> w.again(63))), 64, IllegalStateException.class);
        for (Call call : puttingOne()) {
            FourWords words = pile(63);
            Due.same(call.name + " on 63 values", Due.thrown(words, call.call) + " " + words.count(0), "nothing 64");
        }
    }

    private static void changesNothing() {
        for (int size : SIZES) {
            unchanged(badByNumber(), size);
            unchanged(badByValues(), size);
            unchanged(tooMuchFor(size), size);
        }
        unchanged(puttingOne(), 64);
        unchanged(joining(), 2);
        unchanged(joining(), 3);
        List<Call> letters = new ArrayList<>();
        for (int i : new int[] {Integer.MIN_VALUE, -1, 4, 64, Integer.MAX_VALUE}) {
            letters.add(new Call("letter(" + i + ")", w -> w.letter(i)));
        }
        unchanged(letters, 3);
    }
}
