import java.lang.reflect.Constructor;
import java.lang.reflect.Field;
import java.lang.reflect.Member;
import java.lang.reflect.Method;
import java.lang.reflect.Modifier;
import java.util.Arrays;
import java.util.List;
import java.util.Set;
import java.util.TreeSet;
import java.util.stream.Collectors;

/** The document's face, and what LANGUAGE.md says of it in rules 1 and 5. */
public final class FaceTest {
    private static final Checks CHECKS = new Checks("the face");

    private static final List<String> FACE = List.of(
            "boolean add(int, int) throws IllegalArgumentException, IllegalStateException",
            "boolean remove(int, int) throws IllegalArgumentException",
            "int clear()",
            "int group(int) throws IllegalArgumentException",
            "int members(int) throws IllegalArgumentException",
            "int rank(int) throws IllegalArgumentException",
            "int ranked(int) throws IndexOutOfBoundsException",
            "boolean reaches(int, int) throws IllegalArgumentException",
            "int distance(int, int) throws IllegalArgumentException",
            "int way(int, int, int) throws IllegalArgumentException, NoSuchElementException, "
                    + "IndexOutOfBoundsException",
            "int gate(int, int) throws IllegalArgumentException, NoSuchElementException",
            "int gated(int, int) throws IllegalArgumentException",
            "int places(int, int) throws IllegalArgumentException",
            "int arrows(int, int) throws IllegalArgumentException",
            "int figure(int) throws IllegalArgumentException");

    public static void main(String[] args) {
        CHECKS.due("the class is public and final",
                ArcAtlas.class.getModifiers(), Modifier.PUBLIC | Modifier.FINAL);
        Constructor<?>[] made = ArcAtlas.class.getDeclaredConstructors();
        CHECKS.due("constructors", made.length, 1);
        CHECKS.due("the constructor is public", made[0].getModifiers(), Modifier.PUBLIC);
        CHECKS.due("the constructor's parameters", made[0].getParameterCount(), 0);
        publicMethods();
        Arrays.stream(ArcAtlas.class.getDeclaredFields()).forEach(FaceTest::privateField);
        Arrays.stream(ArcAtlas.class.getDeclaredClasses()).forEach(FaceTest::inside);
        CHECKS.finish();
    }

    private static void publicMethods() {
        Set<String> found = new TreeSet<>();
        Set<String> names = new TreeSet<>();
        for (Method method : ArcAtlas.class.getDeclaredMethods()) {
            if (Modifier.isPublic(method.getModifiers())) {
                found.add(head(method));
                names.add(method.getName());
            }
        }
        CHECKS.due("the public methods", found, new TreeSet<>(FACE));
        for (Method method : ArcAtlas.class.getDeclaredMethods()) {
            if (!Modifier.isPublic(method.getModifiers())) {
                hidden(method);
                CHECKS.due("a private method bears a public name: " + method,
                        names.contains(method.getName()), false);
            }
        }
    }

    private static String head(Method method) {
        String thrown = simple(method.getExceptionTypes());
        return method.getReturnType() + " " + method.getName() + "(" + simple(method.getParameterTypes())
                + ")" + (thrown.isEmpty() ? "" : " throws " + thrown);
    }

    private static String simple(Class<?>[] types) {
        return Arrays.stream(types).map(Class::getSimpleName).collect(Collectors.joining(", "));
    }

    private static void privateField(Field field) {
        hidden(field);
        CHECKS.due("a static field is final: " + field, staticButNotFinal(field), false);
    }

    private static boolean staticButNotFinal(Field field) {
        return Modifier.isStatic(field.getModifiers()) && !Modifier.isFinal(field.getModifiers());
    }

    private static void hidden(Member member) {
        CHECKS.due("private: " + member, Modifier.isPrivate(member.getModifiers()), true);
    }

    private static void inside(Class<?> inner) {
        CHECKS.due("static: " + inner, Modifier.isStatic(inner.getModifiers()), true);
        CHECKS.due("neither public nor protected: " + inner,
                inner.getModifiers() & (Modifier.PUBLIC | Modifier.PROTECTED), 0);
        for (Field field : inner.getDeclaredFields()) {
            CHECKS.due("a static field is final: " + field, staticButNotFinal(field), false);
        }
    }
}
