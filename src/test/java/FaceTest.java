import java.lang.reflect.Constructor;
import java.lang.reflect.Field;
import java.lang.reflect.Method;
import java.lang.reflect.Modifier;
import java.util.Arrays;
import java.util.Set;
import java.util.TreeSet;

/** The public face, and rule 1 of LANGUAGE.md. */
public final class FaceTest {
    private static final String[] FACE = {
        "int layOut(int, int) IllegalArgumentException",
        "int pile(int, int) IndexOutOfBoundsException IllegalArgumentException IllegalStateException",
        "int lower(int, int, int) IndexOutOfBoundsException IllegalArgumentException",
        "int earth(int, int) IndexOutOfBoundsException IllegalArgumentException",
        "int earthByColumns(int, int) IndexOutOfBoundsException IllegalArgumentException",
        "int top(int, int) IndexOutOfBoundsException IllegalArgumentException",
        "int height(int) IndexOutOfBoundsException",
        "int heightOfColumn(int) IndexOutOfBoundsException",
        "int wouldPress(int, int, int) IndexOutOfBoundsException IllegalArgumentException",
        "int ceilingFor(int, int, int)"
            + " IndexOutOfBoundsException IllegalArgumentException NoSuchElementException",
        "int ceilingOver(int) IndexOutOfBoundsException NoSuchElementException",
        "int columns()",
        "int spanOf(int) IndexOutOfBoundsException",
        "int greatest(int) IndexOutOfBoundsException",
        "int second(int) IndexOutOfBoundsException",
        "int many(int) IndexOutOfBoundsException",
        "int noted(int) IndexOutOfBoundsException",
        "int lagging()",
        "int visits()",
        "int allVisits()",
        "int pressedAway()",
        "int pressedAwayByRest()",
        "double meanVisits()"};

    public static void main(String[] args) {
        Class<?> face = PressedPlains.class;
        Check.isTrue("the class is public", Modifier.isPublic(face.getModifiers()));
        Check.isTrue("the class is final", Modifier.isFinal(face.getModifiers()));
        Check.same("the class has no package", face.getPackageName(), "");
        methods(face);
        members(face);
        Check.end();
    }

    private static void methods(Class<?> face) {
        Set<String> got = new TreeSet<>();
        Set<String> names = new TreeSet<>();
        for (Method method : face.getDeclaredMethods()) {
            if (!Modifier.isPrivate(method.getModifiers())) {
                got.add(tell(method));
                names.add(method.getName());
            }
        }
        Check.same("the face", got.toString(), new TreeSet<>(Arrays.asList(FACE)).toString());
        for (Method method : face.getDeclaredMethods()) {
            if (Modifier.isPrivate(method.getModifiers())) {
                Check.isTrue(method.getName() + " is no public name",
                        !names.contains(method.getName()));
            }
        }
    }

    private static String tell(Method method) {
        StringBuilder text = new StringBuilder(method.getReturnType().getName());
        text.append(' ').append(method.getName()).append('(');
        String gap = "";
        for (Class<?> parameter : method.getParameterTypes()) {
            text.append(gap).append(parameter.getName());
            gap = ", ";
        }
        text.append(')');
        for (Class<?> thrown : method.getExceptionTypes()) {
            text.append(' ').append(thrown.getSimpleName());
        }
        return text.toString();
    }

    private static void members(Class<?> face) {
        for (Field field : face.getDeclaredFields()) {
            Check.isTrue(field.getName() + " is private", Modifier.isPrivate(field.getModifiers()));
        }
        for (Constructor<?> constructor : face.getDeclaredConstructors()) {
            Check.same("the constructor", constructor.toString(), "public PressedPlains()");
        }
        for (Class<?> inside : face.getDeclaredClasses()) {
            int modifiers = inside.getModifiers();
            Check.isTrue(inside.getName() + " is static", Modifier.isStatic(modifiers));
            Check.isTrue(inside.getName() + " is hidden",
                    !Modifier.isPublic(modifiers) && !Modifier.isProtected(modifiers));
        }
    }
}
