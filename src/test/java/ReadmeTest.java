import java.io.IOException;
import java.lang.reflect.InvocationTargetException;
import java.lang.reflect.Method;
import java.lang.reflect.Modifier;
import java.nio.file.Files;
import java.nio.file.Path;
import java.util.ArrayList;
import java.util.Arrays;
import java.util.List;
import java.util.Map;
import java.util.Set;
import java.util.TreeMap;
import java.util.TreeSet;
import java.util.regex.Matcher;
import java.util.regex.Pattern;
import java.util.stream.Collectors;
import java.util.stream.Stream;

/** README.md: its calls answer what it says, and its tables tell of the face and of the tests that there are. */
public final class ReadmeTest {
    private static final List<String> THROWN =
            List.of("IllegalArgumentException", "IndexOutOfBoundsException", "IllegalStateException");
    private static final String MAKING = "Spanjudge x = new Spanjudge();";
    private static final Pattern CALL = Pattern.compile("x\\.(\\w+)\\((.*)\\); +// (throws \\w+|[^:]+)(: .+)?");
    private static final Pattern EXCEPTIONS = Pattern.compile("\\| (`\\w+`(?:, `\\w+`)*) \\| (.+) \\| (.+) \\| (.+) \\|");
    private static final int MOST_CALLS = 512;

    private static final Due due = new Due();
    private static final Map<String, Method> face = new TreeMap<>();
    private static final Set<String> shown = new TreeSet<>();
    private static final Set<String> shownThrown = new TreeSet<>();
    private static Spanjudge x;
    private static int calls;

    public static void main(String[] args) throws IOException {
        for (Method method : Spanjudge.class.getDeclaredMethods()) {
            if (Modifier.isPublic(method.getModifiers())) {
                face.put(method.getName(), method);
            }
        }
        List<String> lines = Files.readAllLines(Path.of("README.md"));
        examples(lines);
        exceptions(lines);
        tests(lines);
        due.end("ReadmeTest");
    }

    private static void examples(List<String> lines) {
        boolean inside = false;
        for (String line : lines) {
            if (line.startsWith("```")) {
                due.is(line + " opens or ends an example", inside ? "```" : "```java", line);
                inside = !inside;
            } else if (inside) {
                example(line);
            }
        }
        due.is("the last example ends", false, inside);
        due.is("the calls that are shown", face.keySet(), shown);
        due.is("the exceptions that are shown", new TreeSet<>(THROWN), shownThrown);
        due.is("an object is good for " + calls + " calls", true, calls <= MOST_CALLS);
    }

    private static void example(String line) {
        if (line.equals(MAKING)) {
            due.is("objects made ahead", null, x);
            x = new Spanjudge();
            return;
        }
        Matcher call = CALL.matcher(line);
        boolean readable = call.matches() && x != null && face.containsKey(call.group(1));
        due.is(line + " is a call with its answer", true, readable);
        if (readable) {
            answer(line, face.get(call.group(1)), call.group(2), call.group(3));
        }
    }

    private static void answer(String line, Method method, String arguments, String answer) {
        shown.add(method.getName());
        long before = x.checksum();
        due.is(line, answer, called(line, method, arguments));
        calls += 2;
        if (answer.startsWith("throws ")) {
            shownThrown.add(answer.substring("throws ".length()));
            due.is(line + " changes nothing", before, x.checksum());
            calls++;
        }
    }

    private static String called(String line, Method method, String arguments) {
        Class<?>[] types = method.getParameterTypes();
        String[] texts = arguments.isEmpty() ? new String[0] : arguments.split(", ");
        due.is(line + " has as many arguments", types.length, texts.length);
        List<Object> values = new ArrayList<>();
        for (int place = 0; place < Math.min(types.length, texts.length); place++) {
            values.add(value(types[place], texts[place]));
        }
        try {
            return String.valueOf(method.invoke(x, values.toArray()));
        } catch (InvocationTargetException e) {
            return "throws " + e.getCause().getClass().getSimpleName();
        } catch (ReflectiveOperationException | IllegalArgumentException e) {
            return "cannot be called so: " + e;
        }
    }

    /** What javac would take: a long that no int holds has its L. */
    private static Object value(Class<?> type, String text) {
        if (type == char.class && text.matches("'[^'\\\\]'")) {
            return text.charAt(1);
        }
        if (type == long.class && text.matches("-?\\d+L")) {
            return Long.parseLong(text.substring(0, text.length() - 1));
        }
        boolean isInt = text.matches("-?\\d{1,10}") && Long.parseLong(text) == (int) Long.parseLong(text);
        if (type == int.class && isInt) {
            return Integer.parseInt(text);
        }
        if (type == long.class && isInt) {
            return Long.parseLong(text);
        }
        return text;
    }

    private static void exceptions(List<String> lines) {
        Map<String, Set<String>> told = new TreeMap<>();
        int header = lines.indexOf("| call | " + String.join(" | ", THROWN) + " |");
        due.is("there is a table of exceptions", true, header >= 0);
        for (String line : lines.subList(header + 1, lines.size())) {
            Matcher row = EXCEPTIONS.matcher(line);
            if (row.matches()) {
                for (String name : row.group(1).replace("`", "").split(", ")) {
                    due.is("rows for " + name + " ahead", null, told.put(name, thrown(row)));
                }
            }
        }
        Map<String, Set<String>> declared = new TreeMap<>();
        face.forEach((name, method) -> declared.put(name, Arrays.stream(method.getExceptionTypes())
                .map(Class::getSimpleName).collect(Collectors.toCollection(TreeSet::new))));
        due.is("the table of exceptions", declared, told);
    }

    private static Set<String> thrown(Matcher row) {
        Set<String> names = new TreeSet<>();
        for (int column = 0; column < THROWN.size(); column++) {
            if (!row.group(column + 2).equals("-")) {
                names.add(THROWN.get(column));
            }
        }
        return names;
    }

    private static void tests(List<String> lines) throws IOException {
        Set<String> named = new TreeSet<>();
        Matcher names = Pattern.compile("\\b\\w+Test\\b").matcher(String.join("\n", lines));
        while (names.find()) {
            named.add(names.group());
        }
        Set<String> there = new TreeSet<>();
        try (Stream<Path> files = Files.list(Path.of("src/test/java"))) {
            files.map(file -> file.getFileName().toString()).filter(name -> name.endsWith("Test.java"))
                    .forEach(name -> there.add(name.substring(0, name.length() - ".java".length())));
        }
        due.is("the tests that are named", there, named);
        due.is("the script that runs them is named", true, lines.contains("    .ci/run"));
        due.is("it can be run", true, Files.isExecutable(Path.of(".ci/run")));
    }
}
