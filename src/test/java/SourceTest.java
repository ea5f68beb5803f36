import java.io.IOException;
import java.nio.file.Files;
import java.nio.file.Path;
import java.util.Set;
import java.util.regex.Matcher;
import java.util.regex.Pattern;

/** The rules of LANGUAGE.md that the text of the class can show; it is run in the project's folder. */
public final class SourceTest {
    private static final Set<String> THROWN = Set.of("IllegalStateException", "IllegalArgumentException",
            "IndexOutOfBoundsException", "ArithmeticException", "UnsupportedOperationException",
            "NoSuchElementException", "RuntimeException");

    private static final Due due = new Due();

    public static void main(String[] args) throws IOException {
        String source = Files.readString(Path.of("src/main/java/Spanjudge.java"));
        due.is("plain signs alone", true, source.chars().allMatch(sign -> sign == '\n' || sign >= 32 && sign < 127));
        String code = source.replaceAll("(?s)/\\*.*?\\*/", "").replaceAll("//[^\n]*", "");
        forbidden(code);
        library(code);
        thrown(code);
        lengths(source);
        due.end("SourceTest");
    }

    private static void forbidden(String code) {
        String words = "package import try catch finally synchronized assert protected instanceof record "
                + "native volatile transient strictfp var yield goto System Thread Random null";
        for (String word : words.split(" ")) {
            due.is("no " + word, false, Pattern.compile("\\b" + word + "\\b").matcher(code).find());
        }
        due.is("no lambda", false, code.contains("->"));
        due.is("no method reference", false, code.contains("::"));
        due.is("no initialiser block", false, Pattern.compile("\\bstatic\\s*\\{").matcher(code).find());
        due.is("no Exact", false, code.contains("Exact"));
        due.is("no annotation", false, code.contains("@"));
    }

    /** Names with a capital before a dot are own constants or classes, or Math with what it may be asked. */
    private static void library(String code) {
        Matcher names = Pattern.compile("\\b([A-Z][a-z]\\w*)\\.(\\w+)").matcher(code);
        while (names.find()) {
            boolean own = Set.of("WordTheorem", "RowTheorem").contains(names.group(1));
            boolean math = names.group(1).equals("Math") && Set.of("min", "max").contains(names.group(2));
            due.is(names.group() + " may be called", true, own || math);
        }
    }

    private static void thrown(String code) {
        Matcher throwing = Pattern.compile("\\bthrow\\b[^;]*;").matcher(code);
        Pattern form = Pattern.compile("throw new (\\w+)\\((\"[^\"]*\")?\\);");
        while (throwing.find()) {
            Matcher matched = form.matcher(throwing.group());
            due.is(throwing.group() + " has the form", true, matched.matches() && THROWN.contains(matched.group(1)));
        }
    }

    /** A method begins and ends at the indent of its class's members. */
    private static void lengths(String source) {
        int begun = 0;
        int number = 0;
        for (String line : source.split("\n")) {
            number++;
            boolean member = line.matches("( {4}| {8})(public|private) .*") && !line.contains(" class ") && !line.endsWith(";");
            begun = member ? number : begun;
            if (line.matches("( {4}| {8})\\}") && begun > 0) {
                due.is("line " + begun + " begins at most 60 lines", true, number - begun < 60);
                begun = 0;
            }
        }
    }
}
