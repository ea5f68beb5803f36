import java.lang.reflect.InvocationTargetException;
import java.lang.reflect.Method;
import java.lang.reflect.Parameter;
import java.util.ArrayList;
import java.util.Arrays;
import java.util.Comparator;
import java.util.List;

/** Runs of the 512 calls that an object is good for, every answer beside that of Model; the same runs each time. */
public final class RandomRunsTest {
    private static final int RUNS = 2400;
    private static final int CALLS = 512;

    private static final long[] EDGES = {
        0, 1, -1, 127, -128, 128, -129, 255, 256, 32767, -32768, 32768, -32769, 65535,
        Integer.MAX_VALUE, Integer.MIN_VALUE, Integer.MAX_VALUE + 1L, Integer.MIN_VALUE - 1L,
        Long.MAX_VALUE, Long.MIN_VALUE,
    };

    private final Due due = new Due();
    private final Method[] calls = faceInOrder();
    private long seed;
    private int letters;
    private String kinds;

    public static void main(String[] args) {
        RandomRunsTest test = new RandomRunsTest();
        for (int run = 0; run < RUNS; run++) {
            test.run(run);
        }
        test.due.end("RandomRunsTest");
    }

    private static Method[] faceInOrder() {
        Method[] methods = Arrays.stream(Spanjudge.class.getDeclaredMethods())
                .filter(method -> java.lang.reflect.Modifier.isPublic(method.getModifiers())).toArray(Method[]::new);
        Arrays.sort(methods, Comparator.comparing(Method::getName));
        return methods;
    }

    private int below(int bound) {
        seed = seed * 6364136223846793005L + 1442695040888963407L;
        return (int) Math.floorMod(seed >>> 33, (long) bound);
    }

    /** Runs differ in how many letters their rows have and in how few kinds and wrong arguments they use. */
    private void run(int run) {
        seed = run * 7919L + 17;
        letters = 1 + below(4);
        kinds = below(2) == 0 ? "bsil" : "bsil".substring(below(4)).substring(0, 1);
        Spanjudge x = new Spanjudge();
        Model model = new Model();
        // Of the checksums, which are calls too, every other run asks but the last one.
        boolean summedEachTime = run % 2 == 0;
        int count = summedEachTime ? CALLS / 2 : CALLS - 1;
        for (int call = 0; call < count; call++) {
            Method method = below(3) == 0 ? named(below(2) == 0 ? "append" : "span") : calls[below(calls.length)];
            Object[] arguments = arguments(method, model);
            String text = run + "." + call + ": " + method.getName() + Arrays.toString(arguments);
            due.is(text, answer(model, method, arguments), answer(x, method, arguments));
            if (summedEachTime || call == count - 1) {
                due.is(text + ", then checksum", model.checksum(), x.checksum());
            }
        }
    }

    private Method named(String name) {
        for (Method method : calls) {
            if (method.getName().equals(name)) {
                return method;
            }
        }
        throw new IllegalStateException(name);
    }

    private Object[] arguments(Method method, Model model) {
        List<Object> made = new ArrayList<>();
        char kind = kinds.charAt(below(kinds.length()));
        int wrong = below(12) == 0 ? below(method.getParameterCount() + 1) : -1;
        int from = 0;
        int place = 0;
        for (Parameter parameter : method.getParameters()) {
            boolean isWrong = place == wrong;
            Object value = argument(method.getName(), parameter, kind, from, isWrong);
            if (parameter.getName().equals("from")) {
                from = (Integer) value;
            }
            made.add(value);
            place++;
        }
        return made.toArray();
    }

    private Object argument(String call, Parameter parameter, char kind, int from, boolean wrong) {
        String name = parameter.getName();
        if (parameter.getType() == char.class) {
            return sign(name, call, kind, wrong);
        }
        if (parameter.getType() == long.class) {
            return wrong ? EDGES[below(EDGES.length)] : number(kind);
        }
        if (wrong) {
            int[] wrongs = {-1, 4, 12, 33, Integer.MIN_VALUE, Integer.MAX_VALUE, below(40) - 4};
            return wrongs[below(wrongs.length)];
        }
        boolean ofRows = call.equals("asksRows");
        switch (name) {
            case "row":
            case "otherRow":
                return below(4);
            case "number":
            case "one":
            case "other":
            case "third":
                return below(ofRows ? 4 : 12);
            case "times":
                return 1 + below(3);
            case "from":
                return below(6);
            case "to":
                return from + below(5);
            case "period":
                return 1 + below(8);
            case "place":
                return below(10);
            default:
                throw new IllegalStateException(call + " has " + name);
        }
    }

    private char sign(String name, String call, char kind, boolean wrong) {
        if (wrong) {
            return "bsilecumrftnxBS \0".charAt(below(17));
        }
        switch (name) {
            case "kind":
                return kind;
            case "other":
                return "bsil".charAt(below(4));
            case "order":
                return "su".charAt(below(2));
            case "how":
                return "nut".charAt(below(3));
            case "what":
                return call.equals("tells") ? "rft".charAt(below(3)) : "ecum".charAt(below(4));
            default:
                throw new IllegalStateException(call + " has " + name);
        }
    }

    private long number(char kind) {
        if (below(20) == 0) {
            return EDGES[below(EDGES.length)];
        }
        long[] least = {-128, -32768, Integer.MIN_VALUE, Long.MIN_VALUE};
        long low = least["bsil".indexOf(kind)];
        long[] alphabet = {0, -1, ~low, low};
        return alphabet[below(letters)];
    }

    private static Object answer(Object object, Method face, Object[] arguments) {
        try {
            Method method = object.getClass().getMethod(face.getName(), face.getParameterTypes());
            return method.invoke(object, arguments);
        } catch (InvocationTargetException e) {
            return e.getCause().getClass();
        } catch (ReflectiveOperationException e) {
            return e;
        }
    }
}
