import java.io.IOException;
import java.nio.file.Files;
import java.nio.file.Path;
import java.util.ArrayList;
import java.util.List;
import java.util.regex.Matcher;
import java.util.regex.Pattern;

/** What can be seen of the rules of LANGUAGE.md in the program's text. */
public final class LanguageTest {
    private static final String PROGRAM = "src/main/java/ToplistHouse.java";
    private static final int LONGEST_METHOD = 60;
    private static final int MOST_FIELDS = 20;

    private static final String[] FORBIDDEN = {
        "^package ", "->", "::", "\\bsynchronized\\b", "\\bassert\\b", "\\bfinally\\b", "\\btry\\b", "\\bcatch\\b",
        "\\bnative\\b", "\\bvolatile\\b", "\\binstanceof\\b", "\\bthis\\.getClass\\b", "\\bstatic \\{",
        "Exact\\(", "\\bStream\\b", "\\bSystem\\.(?!arraycopy\\()", "\\bMath\\.(?!min\\(|max\\()",
        "\\bArrays\\.(?!fill\\()", "\\bprotected\\b", "\\bgoto\\b", "\\bvar\\b", "\\bwhile \\(true\\)", "for \\(;",
        "^import (?!java\\.util\\.Arrays;|java\\.util\\.NoSuchElementException;)", "\" \\+", "\\+ \"",
    };

    public static void main(String[] args) throws IOException {
        String text = Files.readString(Path.of(PROGRAM));
        Check.isTrue("ASCII alone", text.chars().allMatch(c -> c < 128));
        String[] lines = withoutComments(text).split("\n");
        forbidden(lines);
        thrown(lines);
        lengths(lines);
        fields(lines);
        Check.finish();
    }

    private static String withoutComments(String text) {
        Matcher comments = Pattern.compile("/\\*.*?\\*/|//[^\n]*", Pattern.DOTALL).matcher(text);
        return comments.replaceAll(m -> m.group().replaceAll("[^\n]", ""));
    }

    private static void forbidden(String[] lines) {
        for (String words : FORBIDDEN) {
            Pattern pattern = Pattern.compile(words);
            for (int i = 0; i < lines.length; i++) {
                Check.isTrue("line " + (i + 1) + " has " + words, !pattern.matcher(lines[i]).find());
            }
        }
    }

    private static void thrown(String[] lines) {
        Pattern known = Pattern.compile("throw new (IndexOutOfBounds|IllegalArgument|NoSuchElement)Exception"
                + "\\((\"[^\"]*\")?\\);");
        for (int i = 0; i < lines.length; i++) {
            boolean isThrow = Pattern.compile("\\bthrow\\b").matcher(lines[i]).find();
            Check.isTrue("rule 6, line " + (i + 1), !isThrow || known.matcher(lines[i]).find());
        }
    }

    /** A method begins with a line that ends with ") {" (or with its exceptions) at 4 or 8 blanks. */
    private static void lengths(String[] lines) {
        Pattern begin = Pattern.compile("^( {4}| {8})(private|public) [^=;]*\\(.*");
        for (int i = 0; i < lines.length; i++) {
            Matcher matcher = begin.matcher(lines[i]);
            if (matcher.find()) {
                String end = matcher.group(1) + "}";
                int last = i;
                while (last < lines.length && !lines[last].equals(end)) {
                    last++;
                }
                int length = last - i + 1;
                Check.isTrue("rule 11, line " + (i + 1) + ", " + length + " lines", length <= LONGEST_METHOD);
            }
        }
    }

    private static void fields(String[] lines) {
        List<String> found = new ArrayList<>();
        for (String line : lines) {
            if (line.matches("^ *(public |private )?(static )?(final )?class .*|^    private static final class .*")) {
                found.clear();
            }
            if (line.matches("^( {4}| {8})private (final )?[A-Za-z]+(\\[\\])* [A-Za-z]+( = .*)?;")) {
                found.add(line.trim());
                Check.isTrue("rule 11, too many fields: " + line.trim(), found.size() <= MOST_FIELDS);
            }
            boolean isStaticField = line.matches("^ *(public|private)? ?static [^(]*(=.*|;)");
            Check.isTrue("rule 5, " + line.trim(), !isStaticField || line.contains(" final "));
        }
    }
}
