import java.lang.reflect.Constructor;
import java.lang.reflect.Field;
import java.lang.reflect.Method;
import java.lang.reflect.Modifier;
import java.util.Arrays;
import java.util.Set;
import java.util.TreeSet;

/** The class has the document's public face, and nothing else that can be seen from outside. */
public final class FaceTest {
    private static final String[] FACE = {
        "int feed(int, int, int, int, int) IndexOutOfBoundsException",
        "int end(int) IllegalArgumentException",
        "int read(int) IllegalArgumentException UnsupportedOperationException IndexOutOfBoundsException",
        "int print(int) IllegalArgumentException",
        "void get(int, int, int) IllegalArgumentException ArithmeticException IndexOutOfBoundsException",
        "void set(int, int, int, int) IllegalArgumentException ArithmeticException IndexOutOfBoundsException",
        "void del(int, int, int) IllegalArgumentException ArithmeticException IndexOutOfBoundsException",
        "void all(int, int) IllegalArgumentException IndexOutOfBoundsException",
        "boolean same(int, int) IllegalArgumentException",
        "long word(int) IndexOutOfBoundsException",
        "int count(int) IllegalArgumentException",
    };

    public static void main(String[] args) {
        Set<String> wanted = new TreeSet<>(Arrays.asList(FACE));
        Set<String> found = new TreeSet<>();
        Set<String> names = new TreeSet<>();
        for (Method method : StepBench.class.getDeclaredMethods()) {
            if (Modifier.isPrivate(method.getModifiers())) {
                names.add(method.getName());
            } else {
                found.add(describe(method));
            }
        }
        Check.equal("the methods that can be seen", wanted.toString(), found.toString());
        for (String face : FACE) {
            String name = face.substring(face.indexOf(' ') + 1, face.indexOf('('));
            Check.equal("a private method is named " + name, false, names.contains(name));
        }
        checkOthers();
        Check.finish();
    }

    private static void checkOthers() {
        int modifiers = StepBench.class.getModifiers();
        Check.equal("the class is public", true, Modifier.isPublic(modifiers));
        Check.equal("the class is final", true, Modifier.isFinal(modifiers));
        Constructor<?>[] constructors = StepBench.class.getDeclaredConstructors();
        Check.equal("constructors", 1, constructors.length);
        Check.equal("the constructor's parameters", 0, constructors[0].getParameterCount());
        Check.equal("the constructor is public", true, Modifier.isPublic(constructors[0].getModifiers()));
        for (Field field : StepBench.class.getDeclaredFields()) {
            Check.equal(field.getName() + " is private", true, Modifier.isPrivate(field.getModifiers()));
        }
        for (Class<?> inside : StepBench.class.getDeclaredClasses()) {
            Check.equal(inside.getName() + " is static", true, Modifier.isStatic(inside.getModifiers()));
        }
    }

    private static String describe(Method method) {
        StringBuilder text = new StringBuilder();
        text.append(method.getReturnType().getSimpleName()).append(' ').append(method.getName()).append('(');
        String between = "";
        for (Class<?> parameter : method.getParameterTypes()) {
            text.append(between).append(parameter.getSimpleName());
            between = ", ";
        }
        text.append(')');
        for (Class<?> exception : method.getExceptionTypes()) {
            text.append(' ').append(exception.getSimpleName());
        }
        return text.toString();
    }
}
