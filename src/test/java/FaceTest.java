import java.lang.reflect.Constructor;
import java.lang.reflect.Field;
import java.lang.reflect.Method;
import java.lang.reflect.Modifier;
import java.util.Arrays;
import java.util.Set;
import java.util.TreeSet;
import java.util.stream.Collectors;

/** The public face of the document and what LANGUAGE.md says of members (rules 1, 2, 5). */
public final class FaceTest {
    private static final String[] FACE = {
        "boolean begin(int, int, int)", "boolean drop(int)", "boolean join(int, int)",
        "boolean leave(int)", "int bucket(int, int)", "int buckets(int)",
        "int candidate(int, int)", "int clock()", "int closest(int, int, int)",
        "int contact(int, int, int)", "int datagram(int, int)", "int deliver(int)",
        "int entry(int, int)", "int found(int, int)", "int lookup(int)", "int refresh(int)",
        "int tick()", "int waiting()",
    };

    private FaceTest() {
    }

    public static void main(String[] args) {
        Class<?> face = XorOverlay.class;
        Due.is("public and final", face.getModifiers(), Modifier.PUBLIC | Modifier.FINAL);
        Set<String> told = new TreeSet<>(Arrays.asList(FACE));
        Set<String> names = told.stream().map(FaceTest::nameOf).collect(Collectors.toSet());
        Set<String> open = new TreeSet<>();
        for (Method method : face.getDeclaredMethods()) {
            if (!Modifier.isPrivate(method.getModifiers())) {
                open.add(text(method));
            } else {
                Due.is(method + " bears a public name", names.contains(method.getName()), false);
            }
        }
        Due.is("methods " + open + " as told", open.equals(told), true);
        constructorStandsAlone(face);
        fieldsAreHidden(face);
        for (Class<?> inside : face.getDeclaredClasses()) {
            Due.is(inside + " is static", Modifier.isStatic(inside.getModifiers()), true);
            Due.is(inside + " is public", Modifier.isPublic(inside.getModifiers()), false);
            staticsAreFinal(inside);
        }
        Due.end();
    }

    private static void constructorStandsAlone(Class<?> face) {
        Constructor<?>[] constructors = face.getDeclaredConstructors();
        Due.is("constructors", constructors.length, 1);
        Due.is("constructor's modifiers", constructors[0].getModifiers(), Modifier.PUBLIC);
        Due.is("constructor's parameters", constructors[0].getParameterCount(), 0);
    }

    private static void fieldsAreHidden(Class<?> face) {
        for (Field field : face.getDeclaredFields()) {
            Due.is(field + " is private", Modifier.isPrivate(field.getModifiers()), true);
        }
        staticsAreFinal(face);
    }

    private static void staticsAreFinal(Class<?> owner) {
        for (Field field : owner.getDeclaredFields()) {
            int modifiers = field.getModifiers();
            if (Modifier.isStatic(modifiers)) {
                Due.is(field + " is final", Modifier.isFinal(modifiers), true);
            }
        }
    }

    private static String text(Method method) {
        String parameters = Arrays.stream(method.getParameterTypes())
                .map(Class::getName).collect(Collectors.joining(", "));
        return method.getReturnType() + " " + method.getName() + "(" + parameters + ")";
    }

    private static String nameOf(String text) {
        return text.substring(text.indexOf(' ') + 1, text.indexOf('('));
    }
}
