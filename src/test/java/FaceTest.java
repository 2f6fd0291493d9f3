import java.lang.reflect.Constructor;
import java.lang.reflect.Field;
import java.lang.reflect.Method;
import java.lang.reflect.Modifier;
import java.util.Arrays;
import java.util.TreeSet;

/** The public face, as the document has it, and promise 1. */
public final class FaceTest {
    private static final String BOTH = " throws IllegalArgumentException, IllegalStateException";
    private static final String STATE = " throws IllegalStateException";
    private static final String[] FACE = {
        "public int push(long, long, int, boolean)" + BOTH,
        "public void two(int)" + BOTH,
        "public void shift(int)" + BOTH,
        "public void one(int)" + BOTH,
        "public void choose()" + STATE,
        "public void join()" + BOTH,
        "public void copies(int)" + BOTH,
        "public void part(int, int)" + BOTH,
        "public void bit()" + STATE,
        "public void as(int, boolean)" + BOTH,
        "public void again(int)" + BOTH,
        "public int text(int, boolean)" + BOTH,
        "public int letter(int) throws IndexOutOfBoundsException",
        "public long told(int, int)" + BOTH,
        "public int count(int)",
    };

    public static void main(String[] args) {
        classItself();
        methods();
        newObject();
        Due.end();
    }

    private static void classItself() {
        Due.same("modifiers", Modifier.toString(FourWords.class.getModifiers()), "public final");
        Constructor<?>[] made = FourWords.class.getDeclaredConstructors();
        Due.same("constructors", made.length, 1);
        Due.same("constructor", made[0].toGenericString(), "public FourWords()");
        for (Field field : FourWords.class.getDeclaredFields()) {
            Due.same(field + " is private", Modifier.isPrivate(field.getModifiers()), true);
        }
    }

    private static void methods() {
        TreeSet<String> open = new TreeSet<>();
        for (Method method : FourWords.class.getDeclaredMethods()) {
            if (!Modifier.isPrivate(method.getModifiers())) {
                String shape = method.toGenericString().replace("FourWords.", "").replace("java.lang.", "");
                open.add(shape.replace(",", ", ").replace(",  ", ", "));
            }
        }
        Due.same("methods of the face", open, new TreeSet<>(Arrays.asList(FACE)));
    }

    private static void newObject() {
        FourWords words = new FourWords();
        Due.same("a new pile", words.count(0), 0);
        Due.same("a new text", words.count(1), 0);
        Due.index("letter(0) of a new text", words, w -> w.letter(0));
        Due.state("told(0, 0) of a new pile", words, w -> w.told(0, 0));
        FourWords other = Due.pile("01");
        Due.same("another object's pile", words.count(0) + " " + other.count(0), "0 1");
    }
}
