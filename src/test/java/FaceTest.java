import java.lang.reflect.Constructor;
import java.lang.reflect.Field;
import java.lang.reflect.Method;
import java.lang.reflect.Modifier;
import java.util.Arrays;
import java.util.TreeSet;

/** The public face, as the document has it, and promise 1. */
public final class FaceTest {
    private static final String[] FACE = {
        "public int push(long, long, int, boolean)",
        "public void two(int)",
        "public void shift(int)",
        "public void one(int)",
        "public void choose()",
        "public void join()",
        "public void copies(int)",
        "public void part(int, int)",
        "public void bit()",
        "public void as(int, boolean)",
        "public void again(int)",
        "public int text(int, boolean)",
        "public int letter(int)",
        "public long told(int, int)",
        "public int count(int)",
    };

    public static void main(String[] args) {
        classItself();
        methods();
        newObject();
        Due.end();
    }

    private static void classItself() {
        Due.same("modifiers", Modifier.toString(FourWords.class.getModifiers()), "public final");
        Constructor<?>[] made = FourWords.class.getDeclaredConstructors();
        Due.same("constructors", made.length, 1);
        Due.same("constructor", made[0].toGenericString(), "public FourWords()");
        for (Field field : FourWords.class.getDeclaredFields()) {
            Due.same(field + " is private", Modifier.isPrivate(field.getModifiers()), true);
        }
    }

    private static void methods() {
        TreeSet<String> open = new TreeSet<>();
        for (Method method : FourWords.class.getDeclaredMethods()) {
            if (!Modifier.isPrivate(method.getModifiers())) {
                // Which unchecked exceptions a method names makes no difference to its callers.
                String shape = method.toGenericString().replaceAll(" throws .*", "").replace("FourWords.", "");
                open.add(shape.replace(",", ", "));
            }
        }
        Due.same("methods of the face", open, new TreeSet<>(Arrays.asList(FACE)));
    }

    private static void newObject() {
        FourWords words = new FourWords();
        Due.same("a new pile", words.count(0), 0);
        Due.same("a new text", words.count(1), 0);
        Due.index("letter(0) of a new text", words, w -> w.letter(0));
        Due.state("told(0, 0) of a new pile", words, w -> w.told(0, 0));
        FourWords other = Due.pile("01");
        Due.same("another object's pile", words.count(0) + " " + other.count(0), "0 1");
    }
}
