import java.lang.reflect.Constructor;
import java.lang.reflect.Method;
import java.lang.reflect.Modifier;
import java.util.Arrays;
import java.util.TreeSet;

/** The public face is the document's and nothing more. */
public final class FaceTest {
    private static final String[] METHODS = {
        "void feed(int, int, int, int, int) throws IllegalStateException",
        "int end(int) throws IllegalArgumentException",
        "int put(int) throws IllegalArgumentException, IllegalStateException",
        "void drop(int) throws IllegalArgumentException, NoSuchElementException",
        "void copy(int, int) throws IllegalArgumentException",
        "int merge() throws IllegalArgumentException, IllegalStateException",
        "int renamed(int, int, int, int) throws IllegalArgumentException, NoSuchElementException",
        "int outcome(int, int) throws IllegalArgumentException, NoSuchElementException",
        "int letter(int, int, int) throws IllegalArgumentException, NoSuchElementException",
        "int blob(int, int) throws IllegalArgumentException, NoSuchElementException",
        "int count(int)",
    };

    private static String names(Class<?>[] classes) {
        return String.join(", ", Arrays.stream(classes).map(Class::getSimpleName).toArray(String[]::new));
    }

    private static String say(Method m) {
        String thrown = names(m.getExceptionTypes());
        return m.getReturnType().getSimpleName() + " " + m.getName() + "(" + names(m.getParameterTypes()) + ")"
                + (thrown.isEmpty() ? "" : " throws " + thrown);
    }

    public static void main(String[] args) {
        Class<?> face = MapMerger.class;
        Bench.due("modifiers", Modifier.toString(face.getModifiers()), "public final");
        TreeSet<String> got = new TreeSet<>();
        for (Method m : face.getDeclaredMethods()) {
            if (!Modifier.isPrivate(m.getModifiers())) {
                got.add(Modifier.toString(m.getModifiers()).replace("public", "") + say(m));
            }
        }
        Bench.due("methods", got, new TreeSet<>(Arrays.asList(METHODS)));
        Constructor<?>[] made = face.getDeclaredConstructors();
        Bench.due("constructors", made.length, 1);
        Bench.due("constructor", made[0].toString(), "public MapMerger()");
        long open = Arrays.stream(face.getDeclaredFields()).filter(f -> !Modifier.isPrivate(f.getModifiers())).count();
        Bench.due("open fields", open, 0);
        Bench.finish();
    }
}
