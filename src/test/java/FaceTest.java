import java.lang.reflect.Constructor;
import java.lang.reflect.Field;
import java.lang.reflect.Method;
import java.lang.reflect.Modifier;
import java.util.Set;
import java.util.TreeSet;
import java.util.stream.Collectors;
import java.util.stream.Stream;

/** The public face is the document's, to the letter, and no private method bears the name of a public one. */
public final class FaceTest {
    private static final String INDEX = " throws IndexOutOfBoundsException";
    private static final String INDEX_STATE = INDEX + ", IllegalStateException";
    private static final String INDEX_ARGUMENT = INDEX + ", IllegalArgumentException";
    private static final String INDEX_ARGUMENT_STATE = INDEX_ARGUMENT + ", IllegalStateException";
    private static final String ARGUMENT = " throws IllegalArgumentException";
    private static final String ARITHMETIC = " throws ArithmeticException";

    private static final String[] FACE = {
        "int cutBy(int, int, int)" + INDEX_ARGUMENT_STATE,
        "char way(int)" + INDEX,
        "int line(int, int, int, int, int)" + INDEX_ARGUMENT_STATE,
        "int rate(int, int, int)" + INDEX_ARGUMENT_STATE,
        "int remove(int, int)" + INDEX_STATE,
        "int move(int, int, int)" + INDEX_STATE,
        "int sort(int)" + INDEX_STATE,
        "int split(int, int, int)" + INDEX_ARGUMENT_STATE,
        "int copy(int, int)" + INDEX_STATE,
        "int lines(int)" + INDEX,
        "boolean isSame(int, int)" + INDEX,
        "long exact(int, int)" + INDEX,
        "long whole(int)" + INDEX,
        "long total(int)" + INDEX,
        "long alone(int, int)" + INDEX,
        "long byRests(int, int)" + INDEX,
        "long carried(int, int)" + INDEX,
        "int rank(int, int)" + INDEX,
        "int raised(int)" + INDEX,
        "long gap(int)" + INDEX,
        "long off(int, int)" + INDEX_ARGUMENT,
        "int close(int, int)" + INDEX_ARGUMENT_STATE,
        "long told(int, int)" + INDEX_STATE,
        "long correct(int, int, int, int, int)" + INDEX_ARGUMENT_STATE,
        "int open(int)" + INDEX_STATE,
        "long onTop(int, int, int)" + ARGUMENT,
        "long within(int, int, int)" + ARGUMENT,
        "int undone(int, int, int, int)" + ARGUMENT,
        "int redone(int, int, int, int)" + ARGUMENT,
        "long abroad(int, int, int, int, int)" + INDEX_ARGUMENT,
        "int home(int, int, int, int, int)" + INDEX_ARGUMENT,
        "int bound(int, int, int, int)" + INDEX_ARGUMENT,
        "double share(int, int)" + INDEX + ", ArithmeticException",
        "float raisedShare()" + ARITHMETIC,
        "long checksum()",
        "boolean isSound(int)" + INDEX,
    };

    private FaceTest() {
    }

    public static void main(String[] args) {
        Check check = new Check();
        Class<?> face = Billwright.class;
        check.due("the class is public and final", Modifier.PUBLIC | Modifier.FINAL, face.getModifiers());
        check.dueText("public methods", new TreeSet<>(Set.of(FACE)).toString(), publicMethods(face).toString());
        for (Constructor<?> constructor : face.getDeclaredConstructors()) {
            check.dueText("the constructor", "public Billwright()", constructor.toString());
        }
        for (Field field : face.getDeclaredFields()) {
            check.due(field + " is private", true, Modifier.isPrivate(field.getModifiers()));
            check.due(field + " is final", true, Modifier.isFinal(field.getModifiers()));
        }
        checkPrivateMethods(check, face);
        for (Class<?> inside : face.getDeclaredClasses()) {
            check.due(inside + " is static", true, Modifier.isStatic(inside.getModifiers()));
            checkPrivateMethods(check, inside);
        }
        check.end();
    }

    private static void checkPrivateMethods(Check check, Class<?> type) {
        Set<String> names = Stream.of(Billwright.class.getMethods()).map(Method::getName).collect(Collectors.toSet());
        for (Method method : type.getDeclaredMethods()) {
            check.due(method + " has seven parameters at most", true, method.getParameterCount() <= 7);
            if (type == Billwright.class && Modifier.isPublic(method.getModifiers())) {
                continue;
            }
            check.due(method + " has a name of its own", false, names.contains(method.getName()));
            if (type == Billwright.class) {
                check.due(method + " is private", true, Modifier.isPrivate(method.getModifiers()));
            }
        }
    }

    private static Set<String> publicMethods(Class<?> type) {
        Set<String> texts = new TreeSet<>();
        for (Method method : type.getDeclaredMethods()) {
            if (Modifier.isPublic(method.getModifiers())) {
                texts.add(textOf(method));
            }
        }
        return texts;
    }

    private static String textOf(Method method) {
        String exceptions = names(method.getExceptionTypes());
        return method.getReturnType().getSimpleName() + " " + method.getName()
                + "(" + names(method.getParameterTypes()) + ")"
                + (exceptions.isEmpty() ? "" : " throws " + exceptions);
    }

    private static String names(Class<?>[] types) {
        return Stream.of(types).map(Class::getSimpleName).collect(Collectors.joining(", "));
    }
}
