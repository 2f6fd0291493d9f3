import java.util.function.Consumer;

/** What the tests share: values written as texts ("01xz", with an s in front if signed), and a count of faults. */
final class Due {
    private static final Class<?> BAD = IllegalArgumentException.class;
    private static final Class<?> STATE = IllegalStateException.class;
    private static final Class<?> INDEX = IndexOutOfBoundsException.class;
    private static int wrong = 0;
    private static String sentence = "";

    private Due() {
    }

    /** Runs the test of some words of the document, which are printed if it fails; the tests behind it go on. */
    static void holds(String words, Runnable test) {
        sentence = words;
        String thrown = "";
        try {
            test.run();
        } catch (RuntimeException e) {
            thrown = e.toString();
        }
        same("the test, breaking off,", thrown, "");
        sentence = "";
    }

    static void same(String what, Object got, Object want) {
        if (!got.equals(want)) {
            wrong++;
            if (!sentence.isEmpty()) {
                System.out.println("\"" + sentence + "\" does not hold:");
                sentence = "";
            }
            System.out.println(what + " answered " + got + ", due is " + want);
        }
    }

    /** Makes an object with these values on its pile, the last on top. */
    static FourWords pile(String... values) {
        FourWords words = new FourWords();
        for (String value : values) {
            put(words, value);
        }
        return words;
    }

    static int put(FourWords words, String value) {
        boolean signed = value.startsWith("s");
        String bits = signed ? value.substring(1) : value;
        long ones = 0;
        long unknown = 0;
        for (char bit : bits.toCharArray()) {
            ones = ones * 2 + (bit == '1' || bit == 'x' ? 1 : 0);
            unknown = unknown * 2 + (bit == 'x' || bit == 'z' ? 1 : 0);
        }
        return words.push(ones, unknown, bits.length(), signed);
    }

    /** Reads the value that has so many others above it. */
    static String value(FourWords words, int above) {
        long ones = words.told(above, 0);
        long unknown = words.told(above, 1);
        long width = words.told(above, 2);
        StringBuilder bits = new StringBuilder(words.told(above, 3) == 1 ? "s" : "");
        for (long i = width - 1; i >= 0; i--) {
            int sort = (int) (ones >>> i & 1) + 2 * (int) (unknown >>> i & 1);
            bits.append("01zx".charAt(sort));
        }
        long above64 = width == 64 ? 0 : (ones | unknown) >>> width;
        return above64 == 0 ? bits.toString() : bits + " and bits above the width";
    }

    /** Reads the whole pile, the lowest value first. */
    static String values(FourWords words) {
        StringBuilder all = new StringBuilder();
        for (int above = words.count(0) - 1; above >= 0; above--) {
            all.append(all.length() == 0 ? "" : " ").append(value(words, above));
        }
        return all.toString();
    }

    static String text(FourWords words) {
        StringBuilder text = new StringBuilder();
        for (int i = 0; i < words.count(1); i++) {
            text.append((char) words.letter(i));
        }
        return text.toString();
    }

    static String state(FourWords words) {
        return values(words) + " \"" + text(words) + "\"";
    }

    static void bad(String what, FourWords words, Consumer<FourWords> call) {
        refused(what, words, call, BAD);
    }

    static void state(String what, FourWords words, Consumer<FourWords> call) {
        refused(what, words, call, STATE);
    }

    static void index(String what, FourWords words, Consumer<FourWords> call) {
        refused(what, words, call, INDEX);
    }

    private static void refused(String what, FourWords words, Consumer<FourWords> call, Class<?> kind) {
        String before = state(words);
        same(what + " throws", thrown(words, call), kind.getSimpleName());
        same(what + " leaves", state(words), before);
    }

    static String thrown(FourWords words, Consumer<FourWords> call) {
        try {
            call.accept(words);
        } catch (RuntimeException e) {
            return e.getClass().getSimpleName();
        }
        return "nothing";
    }

    static void end() {
        if (wrong != 0) {
            System.out.println(wrong + " answers are not as due");
            System.exit(1);
        }
    }
}
