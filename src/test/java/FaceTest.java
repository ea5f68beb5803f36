import java.lang.reflect.Constructor;
import java.lang.reflect.Field;
import java.lang.reflect.Method;
import java.lang.reflect.Modifier;
import java.lang.reflect.Parameter;
import java.util.Arrays;
import java.util.Set;
import java.util.TreeSet;
import java.util.stream.Collectors;

/** The public face as the document has it, and nothing else that is not private. */
public final class FaceTest {
    private static final String FACE = """
        int append(char kind, int row, long number) throws IllegalArgumentException, IndexOutOfBoundsException, IllegalStateException
        long set(char kind, int row, int place, long number) throws IllegalArgumentException, IndexOutOfBoundsException
        long number(char kind, int row, int place) throws IllegalArgumentException, IndexOutOfBoundsException
        int length(char kind, int row) throws IllegalArgumentException, IndexOutOfBoundsException
        int clear(char kind, int row) throws IllegalArgumentException, IndexOutOfBoundsException
        int repeat(char kind, int row, int times) throws IllegalArgumentException, IndexOutOfBoundsException, IllegalStateException
        int reverse(char kind, int row) throws IllegalArgumentException, IndexOutOfBoundsException
        int cut(char kind, int row, int from, int to) throws IllegalArgumentException, IndexOutOfBoundsException
        int convert(char kind, int row, char other, int otherRow, char how) throws IllegalArgumentException, IndexOutOfBoundsException, IllegalStateException
        int span(int number, int row, int from, int to) throws IndexOutOfBoundsException, IllegalArgumentException
        int tells(int number, char what) throws IndexOutOfBoundsException, IllegalArgumentException
        boolean fits(char kind, int number) throws IllegalArgumentException, IndexOutOfBoundsException
        int asks(char kind, char what, int one, int other) throws IllegalArgumentException, IndexOutOfBoundsException, IllegalStateException
        int asksRows(char kind, char what, int one, int other) throws IllegalArgumentException, IndexOutOfBoundsException
        int refused(char kind, char what, int row, int from, int to) throws IllegalArgumentException, IndexOutOfBoundsException
        int common(char kind, int one, int other) throws IllegalArgumentException, IndexOutOfBoundsException, IllegalStateException
        int rank(char kind, char order, int number) throws IllegalArgumentException, IndexOutOfBoundsException, IllegalStateException
        int sort(char kind, char order) throws IllegalArgumentException
        int sorted(int place) throws IndexOutOfBoundsException
        int ending(char kind, char order, int row, int place) throws IllegalArgumentException, IndexOutOfBoundsException
        int distinct(char kind, int row) throws IllegalArgumentException, IndexOutOfBoundsException
        int longest(char kind, int row) throws IllegalArgumentException, IndexOutOfBoundsException
        int occurs(char kind, int row, int number) throws IllegalArgumentException, IndexOutOfBoundsException, IllegalStateException
        boolean isPeriod(char kind, int row, int period) throws IllegalArgumentException, IndexOutOfBoundsException
        int period(char kind, int row) throws IllegalArgumentException, IndexOutOfBoundsException
        int root(char kind, int row) throws IllegalArgumentException, IndexOutOfBoundsException
        int rotation(char kind, char order, int row) throws IllegalArgumentException, IndexOutOfBoundsException
        int factors(char kind, char order, int row) throws IllegalArgumentException, IndexOutOfBoundsException
        int factor(char kind, char order, int row, int place) throws IllegalArgumentException, IndexOutOfBoundsException
        float share(char kind) throws IllegalArgumentException, IllegalStateException
        double mean(char kind) throws IllegalArgumentException
        long checksum()
        boolean isTrue(char kind, int one, int other, int third) throws IllegalArgumentException, IndexOutOfBoundsException, IllegalStateException
        boolean rowIsTrue(char kind, char order, int row) throws IllegalArgumentException, IndexOutOfBoundsException
        """;

    private static final Due due = new Due();

    public static void main(String[] args) {
        face();
        outerClass();
        classesInside();
        due.end("FaceTest");
    }

    private static boolean isPrivate(int modifiers) {
        return Modifier.isPrivate(modifiers);
    }

    private static String names(Class<?>[] types) {
        return Arrays.stream(types).map(Class::getSimpleName).collect(Collectors.joining(", "));
    }

    private static String signature(Method method) {
        String parameters = Arrays.stream(method.getParameters())
                .map((Parameter parameter) -> parameter.getType() + " " + parameter.getName())
                .collect(Collectors.joining(", "));
        String thrown = names(method.getExceptionTypes());
        return method.getReturnType() + " " + method.getName() + "(" + parameters + ")"
                + (thrown.isEmpty() ? "" : " throws " + thrown);
    }

    private static void face() {
        Set<String> wanted = new TreeSet<>(FACE.lines().collect(Collectors.toList()));
        Set<String> found = new TreeSet<>();
        for (Method method : Spanjudge.class.getDeclaredMethods()) {
            if (!isPrivate(method.getModifiers())) {
                found.add(signature(method));
                due.is(method.getName() + " is public alone", Modifier.PUBLIC, method.getModifiers());
            }
        }
        due.is("the public face", wanted, found);
    }

    private static void outerClass() {
        due.is("the class is public and final", Modifier.PUBLIC | Modifier.FINAL, Spanjudge.class.getModifiers());
        due.is("it extends nothing", Object.class, Spanjudge.class.getSuperclass());
        due.is("it implements nothing", 0, Spanjudge.class.getInterfaces().length);
        Constructor<?>[] constructors = Spanjudge.class.getDeclaredConstructors();
        due.is("there is one constructor", 1, constructors.length);
        due.is("it is public", true, Modifier.isPublic(constructors[0].getModifiers()));
        due.is("it has no parameters", 0, constructors[0].getParameterCount());
        due.is("it declares no exception", 0, constructors[0].getExceptionTypes().length);
        fields(Spanjudge.class);
        privateNames(Spanjudge.class);
    }

    private static void classesInside() {
        due.is("some twelve classes at most", true, Spanjudge.class.getDeclaredClasses().length <= 11);
        for (Class<?> inside : Spanjudge.class.getDeclaredClasses()) {
            due.is(inside + " is static", true, Modifier.isStatic(inside.getModifiers()));
            due.is(inside + " is private", true, isPrivate(inside.getModifiers()));
            for (Method method : inside.getDeclaredMethods()) {
                due.is(inside + " " + method.getName() + " is private", true, isPrivate(method.getModifiers()));
            }
            fields(inside);
            privateNames(inside);
        }
    }

    private static void fields(Class<?> type) {
        int count = 0;
        for (Field field : type.getDeclaredFields()) {
            boolean isStatic = Modifier.isStatic(field.getModifiers());
            due.is(field + " is private", true, isPrivate(field.getModifiers()));
            due.is(field + " is final if static", true, !isStatic || Modifier.isFinal(field.getModifiers()));
            count += isStatic ? 0 : 1;
        }
        due.is(type + " has at most twenty fields", true, count <= 20);
    }

    private static void privateNames(Class<?> type) {
        Set<String> names = Arrays.stream(Spanjudge.class.getMethods()).map(Method::getName).collect(Collectors.toSet());
        for (Method method : type.getDeclaredMethods()) {
            boolean clashes = isPrivate(method.getModifiers()) && names.contains(method.getName());
            due.is(type + " " + method.getName() + " bears no public name", false, clashes);
            due.is(type + " " + method.getName() + " has at most seven parameters", true, method.getParameterCount() <= 7);
        }
    }
}
