import java.lang.reflect.Constructor;
import java.lang.reflect.Field;
import java.lang.reflect.Member;
import java.lang.reflect.Method;
import java.lang.reflect.Modifier;
import java.util.Arrays;
import java.util.Set;
import java.util.TreeSet;

/** The class shows the face of the document and no more. */
public final class FaceTest {
    private static final String[] FACE = {
        "void nodes(int, int) throws IllegalArgumentException",
        "int arc(int, int, long) throws IndexOutOfBoundsException, IllegalArgumentException",
        "long weigh(int, long) throws IndexOutOfBoundsException, IllegalArgumentException",
        "boolean open(int, boolean) throws IndexOutOfBoundsException",
        "int solve()",
        "long cost()",
        "int into(int) throws IndexOutOfBoundsException",
        "boolean isReached(int) throws IndexOutOfBoundsException",
        "int sets()",
        "int set(int, int) throws IndexOutOfBoundsException",
        "boolean isIn(int, int) throws IndexOutOfBoundsException",
        "long dual(int) throws IndexOutOfBoundsException",
        "long slack(int) throws IndexOutOfBoundsException, IllegalStateException",
        "int about(int) throws IndexOutOfBoundsException",
        "int told(int, int) throws IndexOutOfBoundsException",
        "int depth(int) throws IndexOutOfBoundsException",
        "long far(int) throws IndexOutOfBoundsException",
    };

    public static void main(String[] args) {
        Check check = new Check("FaceTest");
        Class<?> face = TreeOfArcs.class;
        check.same("the class is public", Modifier.isPublic(face.getModifiers()), true);
        check.same("the class is final", Modifier.isFinal(face.getModifiers()), true);
        check.same("NONE", TreeOfArcs.NONE, -1);
        checkMethods(check, face);
        checkFields(check, face);
        checkConstructors(check, face);
        checkClassesInside(check, face);
        check.end();
    }

    private static void checkMethods(Check check, Class<?> face) {
        Set<String> shown = new TreeSet<>();
        Set<String> publicNames = new TreeSet<>();
        for (Method method : face.getDeclaredMethods()) {
            if (Modifier.isPublic(method.getModifiers())) {
                shown.add(asText(method));
                publicNames.add(method.getName());
            }
        }
        check.sameText("the public methods", shown.toString(),
                new TreeSet<>(Arrays.asList(FACE)).toString());
        for (Method method : face.getDeclaredMethods()) {
            boolean isPublic = Modifier.isPublic(method.getModifiers());
            check.same(method + " is public or private", isPublic || isPrivate(method), true);
            check.same(method + " hides a public one's name",
                    !isPublic && publicNames.contains(method.getName()), false);
        }
    }

    private static void checkFields(Check check, Class<?> face) {
        for (Field field : face.getDeclaredFields()) {
            boolean isNone = field.getName().equals("NONE");
            check.same(field + " is private", isPrivate(field), !isNone);
            check.same(field + " is no static state",
                    Modifier.isStatic(field.getModifiers())
                            && !Modifier.isFinal(field.getModifiers()), false);
        }
    }

    private static void checkConstructors(Check check, Class<?> face) {
        Constructor<?>[] all = face.getDeclaredConstructors();
        check.same("how many constructors", all.length, 1);
        for (Constructor<?> one : all) {
            check.same("the constructor is public", Modifier.isPublic(one.getModifiers()), true);
            check.same("its parameters", one.getParameterCount(), 0);
        }
    }

    private static void checkClassesInside(Check check, Class<?> face) {
        for (Class<?> inside : face.getDeclaredClasses()) {
            int is = inside.getModifiers();
            check.same(inside + " is static", Modifier.isStatic(is), true);
            check.same(inside + " is shown outside",
                    Modifier.isPublic(is) || Modifier.isProtected(is), false);
        }
    }

    private static boolean isPrivate(Member member) {
        return Modifier.isPrivate(member.getModifiers());
    }

    private static String asText(Method method) {
        String thrown = names(method.getExceptionTypes());
        return method.getReturnType().getSimpleName() + " " + method.getName()
                + "(" + names(method.getParameterTypes()) + ")"
                + (thrown.isEmpty() ? "" : " throws " + thrown);
    }

    private static String names(Class<?>[] types) {
        StringBuilder text = new StringBuilder();
        for (Class<?> type : types) {
            text.append(text.length() == 0 ? "" : ", ").append(type.getSimpleName());
        }
        return text.toString();
    }
}
