import java.io.File;
import java.lang.reflect.Field;
import java.lang.reflect.Method;
import java.lang.reflect.Modifier;
import java.util.ArrayList;
import java.util.HashSet;
import java.util.List;
import java.util.Set;
import java.util.TreeSet;

/** The rules of LANGUAGE.md that can be seen from outside the methods; .ci/run starts it in the project's folder. */
public final class RulesTest {
    private static final int MOST_PARAMETERS = 7;

    public static void main(String[] args) {
        oneFile();
        List<Class<?>> all = new ArrayList<>();
        all.add(FourWords.class);
        all.addAll(List.of(FourWords.class.getDeclaredClasses()));
        for (Class<?> each : all) {
            staticFieldsAreFinal(each);
            fewParameters(each);
        }
        nothingElseIsOpen();
        namesOfTheFaceAreItsOwn();
        Due.end();
    }

    /** A copy of the program elsewhere in the project would leave open which of them is meant. */
    private static void oneFile() {
        Set<String> programs = new TreeSet<>();
        addPrograms(new File("."), programs);
        Due.same("the program's files", programs, Set.of("./src/main/java/FourWords.java"));
        String[] beside = new File("src/main/java").list((folder, name) -> name.endsWith(".java"));
        Due.same("sources in the program's folder", beside.length, 1);
    }

    private static void addPrograms(File folder, Set<String> programs) {
        for (File file : folder.listFiles()) {
            if (file.isDirectory() && !file.getName().equals(".git")) {
                addPrograms(file, programs);
            } else if (file.getName().equals("FourWords.java")) {
                programs.add(file.getPath());
            }
        }
    }

    private static void staticFieldsAreFinal(Class<?> each) {
        for (Field field : each.getDeclaredFields()) {
            int modifiers = field.getModifiers();
            if (Modifier.isStatic(modifiers) && !field.isSynthetic()) {
                Due.same("rule 5, " + field + " is final,", Modifier.isFinal(modifiers), true);
            }
        }
    }

    private static void fewParameters(Class<?> each) {
        for (Method method : each.getDeclaredMethods()) {
            boolean few = method.getParameterCount() <= MOST_PARAMETERS;
            Due.same("rule 11, " + method + " takes at most seven,", few, true);
        }
    }

    private static void nothingElseIsOpen() {
        for (Class<?> inside : FourWords.class.getDeclaredClasses()) {
            int modifiers = inside.getModifiers();
            boolean open = Modifier.isPublic(modifiers) || Modifier.isProtected(modifiers);
            Due.same("rule 1, " + inside + " is open,", open, false);
        }
    }

    private static void namesOfTheFaceAreItsOwn() {
        Set<String> face = new HashSet<>();
        for (Method method : FourWords.class.getDeclaredMethods()) {
            if (Modifier.isPublic(method.getModifiers())) {
                face.add(method.getName());
            }
        }
        for (Method method : FourWords.class.getDeclaredMethods()) {
            if (Modifier.isPrivate(method.getModifiers())) {
                Due.same("rule 1, " + method + " bears a name of the face,", face.contains(method.getName()), false);
            }
        }
    }
}
