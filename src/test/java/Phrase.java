import java.util.List;

/**
 * A call written as a phrase: "s101 + 0011", "~ 01xz", "1100 >>> 10", "x ? 01 : 10", "10 join zz", "10 copies 3",
 * "1010 part 2 1", "1010 bit 11", "10 as 4 signed". Values are written as in Due; << >> <<< >>> are shift's 0 to 3.
 */
final class Phrase {
    private static final List<String> TWO = List.of("+", "-", "*", "/", "%", "&", "|", "^", "~^",
        "==", "!=", "===", "!==", "<", "<=", ">", ">=", "&&", "||");
    private static final List<String> SHIFT = List.of("<<", ">>", "<<<", ">>>");
    private static final List<String> ONE = List.of("-", "~", "!", "&", "~&", "|", "~|", "^", "~^");
    private static final String BELOW = "s1z0x";

    private Phrase() {
    }

    /** The value below those that the call takes must stay as it is. */
    static void gives(String phrase, String want) {
        FourWords words = Due.pile(BELOW);
        String thrown = Due.thrown(words, w -> make(w, phrase.split(" ")));
        String got = thrown.equals("nothing") ? Due.values(words) : thrown;
        String below = BELOW + " ";
        Due.same(phrase, got.startsWith(below) ? got.substring(below.length()) : got, want);
    }

    /** Tells what several signs between the same two values give, one bit each. */
    static void between(String a, String signs, String b, String wants) {
        String[] sign = signs.split(" ");
        for (int i = 0; i < sign.length; i++) {
            gives(a + " " + sign[i] + " " + b, wants.substring(i, i + 1));
        }
    }

    /** Tells what several signs before the same value give, one bit each. */
    static void before(String signs, String a, String wants) {
        String[] sign = signs.split(" ");
        for (int i = 0; i < sign.length; i++) {
            gives(sign[i] + " " + a, wants.substring(i, i + 1));
        }
    }

    private static void make(FourWords words, String[] parts) {
        if (parts.length == 2) {
            Due.put(words, parts[1]);
            words.one(ONE.indexOf(parts[0]));
            return;
        }
        Due.put(words, parts[0]);
        switch (parts[1]) {
            case "copies" -> words.copies(Integer.parseInt(parts[2]));
            case "part" -> words.part(Integer.parseInt(parts[2]), Integer.parseInt(parts[3]));
            case "as" -> words.as(Integer.parseInt(parts[2]), parts[3].equals("signed"));
            default -> makeOfMore(words, parts);
        }
    }

    private static void makeOfMore(FourWords words, String[] parts) {
        Due.put(words, parts[2]);
        switch (parts[1]) {
            case "join" -> words.join();
            case "bit" -> words.bit();
            case "?" -> {
                Due.put(words, parts[4]);
                words.choose();
            }
            default -> {
                if (SHIFT.contains(parts[1])) {
                    words.shift(SHIFT.indexOf(parts[1]));
                } else {
                    words.two(TWO.indexOf(parts[1]));
                }
            }
        }
    }

    static void writes(String a, int form, boolean brief, String want) {
        FourWords words = Due.pile(BELOW, a);
        String call = "text(" + form + ", " + brief + ") of " + a;
        Due.same(call, words.text(form, brief), want.length());
        Due.same(call + " writes", "\"" + Due.text(words) + "\"", "\"" + want + "\"");
        Due.same(call + " leaves", Due.values(words), BELOW);
    }

    static void writes(String a, int form, String want, String wantBrief) {
        writes(a, form, false, want);
        writes(a, form, true, wantBrief);
    }
}
