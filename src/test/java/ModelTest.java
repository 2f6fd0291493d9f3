import java.util.function.Supplier;

/** All promises: the program beside Model, on all pairs of narrow values, on full piles and on long mixed runs. */
public final class ModelTest {
    private static final int CALLS = 512;
    private static final int RUNS = 4000;
    private static final int BLIND_RUNS = 2000;
    private static final int FULL_PILES = 10;
    private static final int SLACK = 11 + 5 * 5;
    private static final int WHOLE_LOOK = 4 + 2 + 64 * 4 + 65;
    private static final int[] EDGES = {Integer.MIN_VALUE, -1, 0, 1, 2, 3, 4, 5, 8, 9, 18, 19, 63, 64, 65,
        Integer.MAX_VALUE};

    private FourWords words = new FourWords();
    private Model model = new Model();
    private StringBuilder calls = new StringBuilder();
    private int made = 0;
    /** Calls that a run keeps for its last looks. */
    private int kept = 0;
    private long seed = 20261115;

    public static void main(String[] args) {
        ModelTest test = new ModelTest();
        test.narrowPairs();
        test.narrowThrees();
        test.fullPiles();
        for (int run = 0; run < BLIND_RUNS; run++) {
            test.blindRun();
        }
        for (int run = 0; run < RUNS; run++) {
            test.mixedRun();
        }
        Due.end();
    }

    private void renew() {
        words = new FourWords();
        model = new Model();
        calls = new StringBuilder();
        made = 0;
    }

    private void renewBefore(int moreCalls) {
        if (made + moreCalls > CALLS) {
            renew();
        }
    }

    private static String answer(Supplier<Object> call) {
        try {
            return call.get().toString();
        } catch (RuntimeException e) {
            return e.getClass().getSimpleName();
        }
    }

    private void both(String name, Supplier<Object> program, Supplier<Object> due) {
        made++;
        if (made > CALLS) {
            throw new IllegalStateException("the test itself makes too many calls");
        }
        calls.append(name).append(' ');
        String got = answer(program);
        String want = answer(due);
        if (!got.equals(want)) {
            Due.same(calls.toString(), got, want);
        }
    }

    private void both(String name, Runnable program, Runnable due) {
        both(name, () -> {
            program.run();
            return "done";
        }, () -> {
            due.run();
            return "done";
        });
    }

    private void push(long ones, long unknown, int width, boolean signed) {
        both("push(" + ones + ", " + unknown + ", " + width + ", " + signed + ")",
            () -> words.push(ones, unknown, width, signed), () -> model.push(ones, unknown, width, signed));
    }

    private void two(int sign) {
        both("two(" + sign + ")", () -> words.two(sign), () -> model.two(sign));
    }

    private void shift(int how) {
        both("shift(" + how + ")", () -> words.shift(how), () -> model.shift(how));
    }

    private void one(int sign) {
        both("one(" + sign + ")", () -> words.one(sign), () -> model.one(sign));
    }

    private void choose() {
        both("choose()", () -> words.choose(), () -> model.choose());
    }

    private void join() {
        both("join()", () -> words.join(), () -> model.join());
    }

    private void text(int form, boolean brief) {
        both("text(" + form + ", " + brief + ")", () -> words.text(form, brief), () -> model.text(form, brief));
    }

    private void letter(int i) {
        both("letter(" + i + ")", () -> words.letter(i), () -> model.letter(i));
    }

    private void told(int i, int what) {
        both("told(" + i + ", " + what + ")", () -> words.told(i, what), () -> model.told(i, what));
    }

    private void count(int what) {
        both("count(" + what + ")", () -> words.count(what), () -> model.count(what));
    }

    private void again(int i) {
        both("again(" + i + ")", () -> words.again(i), () -> model.again(i));
    }

    private void look(int i) {
        for (int what = 0; what <= 4; what++) {
            told(i, what);
        }
    }

    /** The narrow values in a row: all of widths 1 and 2, signed and not, 40 in all. */
    private void pushNarrow(int number) {
        int plain = number / 2;
        int width = plain < 4 ? 1 : 2;
        int bits = plain < 4 ? plain : plain - 4;
        push(bits % (1 << width), bits >> width, width, number % 2 == 1);
    }

    private void narrowPairs() {
        for (int pair = 0; pair < 40 * 40; pair++) {
            for (int sign = 0; sign < 19 + 4 + 1 + 1; sign++) {
                renewBefore(10);
                pushNarrow(pair / 40);
                pushNarrow(pair % 40);
                if (sign < 19) {
                    two(sign);
                } else if (sign < 23) {
                    shift(sign - 19);
                } else if (sign == 23) {
                    join();
                } else {
                    both("bit()", () -> words.bit(), () -> model.bit());
                }
                look(0);
                text(0, false);
            }
        }
    }

    private void narrowThrees() {
        for (int three = 0; three < 8 * 40 * 40; three++) {
            renewBefore(10);
            pushNarrow(three / 1600);
            pushNarrow(three / 40 % 40);
            pushNarrow(three % 40);
            choose();
            look(0);
            text(2, true);
        }
    }

    /** Every call that takes values or puts one, on a pile of 64, and all that is there then. */
    private void fullPiles() {
        for (int round = 0; round < FULL_PILES; round++) {
            for (int call = 0; call < 19 + 4 + 9 + 6 + 9; call++) {
                renew();
                for (int i = 0; i < 64; i++) {
                    push(bits(), unknownBits(), 1 + below(64), heads());
                }
                makeOnFull(call);
                lookAtAll();
            }
        }
    }

    private void makeOnFull(int call) {
        if (call < 19) {
            two(call);
        } else if (call < 23) {
            shift(call - 19);
        } else if (call < 32) {
            one(call - 23);
        } else if (call < 38) {
            text((call - 32) / 2, call % 2 == 0);
        } else {
            makeOtherOnFull(call - 38);
        }
    }

    private void makeOtherOnFull(int call) {
        switch (call) {
            case 0 -> choose();
            case 1 -> join();
            case 2 -> copies(1 + below(3));
            case 3 -> part(below(64), below(8));
            case 4 -> both("bit()", () -> words.bit(), () -> model.bit());
            case 5 -> as(1 + below(64), heads());
            case 6 -> again(below(65));
            case 7 -> push(bits(), unknownBits(), 1 + below(64), heads());
            default -> push(bits(), unknownBits(), number(65), heads());
        }
    }

    private void lookAtAll() {
        count(0);
        count(1);
        for (int i = 0; i < model.count(0); i++) {
            for (int what = 0; what < 4; what++) {
                told(i, what);
            }
        }
        for (int i = 0; i <= model.count(1); i++) {
            letter(i);
        }
    }

    /** Looks at nothing before the end, so that far more calls change the pile, which often is full or empty. */
    private void blindRun() {
        renew();
        int eager = 1 + below(12);
        kept = WHOLE_LOOK;
        while (made + kept < CALLS) {
            if (below(12) < eager) {
                pushAny();
            } else {
                reckonBlindly();
            }
        }
        lookAtAll();
    }

    private void reckonBlindly() {
        if (below(8) == 0) {
            text(number(3), heads());
        } else {
            reckon();
        }
    }

    /** An own chain of numbers, the same in every run of the test. */
    private long next() {
        seed ^= seed << 13;
        seed ^= seed >>> 7;
        seed ^= seed << 17;
        return seed * 0x2545F4914F6CDD1DL;
    }

    private int below(int bound) {
        return (int) ((next() >>> 33) % bound);
    }

    private boolean heads() {
        return below(2) == 0;
    }

    /** A number that mostly is in range and else stands at an edge. */
    private int number(int bound) {
        return below(12) == 0 ? EDGES[below(EDGES.length)] : below(bound);
    }

    private long bits() {
        switch (below(6)) {
            case 0:
                return below(16);
            case 1:
                return -1L - below(3);
            case 2:
                return 1L << below(64);
            case 3:
                return -1L << below(64);
            default:
                return next();
        }
    }

    private long unknownBits() {
        switch (below(6)) {
            case 0:
                return next();
            case 1:
                return -1L;
            case 2:
                return 1L << below(64);
            default:
                return 0;
        }
    }

    private void pushAny() {
        int width = below(30) == 0 ? EDGES[below(EDGES.length)] : below(3) == 0 ? 64 : 1 + below(64);
        push(bits(), unknownBits(), width, heads());
    }

    private void mixedRun() {
        renew();
        int eager = 1 + below(12);
        kept = SLACK;
        while (made + kept < CALLS) {
            if (below(12) < eager) {
                pushAny();
            } else {
                reckon();
            }
            count(0);
            count(1);
            letter(number(20));
            look(0);
        }
        for (int i = 1; i < 6; i++) {
            look(i);
        }
    }

    private void reckon() {
        switch (below(16)) {
            case 0, 1, 2, 3 -> two(number(19));
            case 4 -> shift(number(4));
            case 5 -> shiftByFew();
            case 6, 7 -> one(number(9));
            case 8 -> choose();
            case 9 -> join();
            case 10 -> copies(1 + number(4));
            case 11 -> part(number(64), number(20));
            case 12 -> bit();
            case 13 -> as(1 + number(64), heads());
            case 14 -> again(number(5));
            default -> write();
        }
    }

    private void shiftByFew() {
        push(below(70), 0, 7, heads());
        shift(number(4));
    }

    private void copies(int n) {
        both("copies(" + n + ")", () -> words.copies(n), () -> model.copies(n));
    }

    private void part(int h, int l) {
        both("part(" + h + ", " + l + ")", () -> words.part(h, l), () -> model.part(h, l));
    }

    private void bit() {
        if (heads()) {
            push(below(70), 0, 7, heads());
        }
        both("bit()", () -> words.bit(), () -> model.bit());
    }

    private void as(int width, boolean signed) {
        both("as(" + width + ", " + signed + ")", () -> words.as(width, signed), () -> model.as(width, signed));
    }

    private void write() {
        text(number(3), heads());
        int room = CALLS - made - kept;
        for (int i = 0; i < Math.min(room, model.count(1) + 1); i++) {
            letter(i);
        }
        letter(number(64));
    }
}
