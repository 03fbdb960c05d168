import java.io.IOException;
import java.nio.file.Files;
import java.nio.file.Path;
import java.util.regex.Matcher;
import java.util.regex.Pattern;

/** Rules of LANGUAGE.md that a look at the source can tell; run from the project's own folder. */
public final class LanguageTest {
    private static final Checks CHECKS = new Checks("LanguageTest");
    private static final int MOST_LINES_OF_A_METHOD = 60;
    private static final int MOST_CLASSES = 12;
    private static final int MOST_PARAMETERS = 7;

    public static void main(String[] args) throws IOException {
        String source = Files.readString(Path.of("src/main/java/SliceBlocks.java"));
        String code = withoutTextsAndComments(source);
        none(code, "a package or an import", "\\b(package|import)\\b");
        none(code, "a lambda or a method reference", "->|::");
        none(code, "words that are ruled out",
            "\\b(finally|synchronized|assert|hashCode|toString|volatile|native|var)\\b");
        none(code, "a catch", "\\bcatch\\b");
        none(code, "an Exact function", "\\w+Exact\\b");
        none(code, "doubles, which may be NaN", "\\b(double|float)\\b");
        none(code, "clock, chance, threads", "\\b(System\\.(?!arraycopy)\\w+|Math\\.random|Random|Thread)\\b");
        none(code, "other exceptions", "throw new (?!IllegalState|IllegalArgument|IndexOutOfBounds)");
        none(code, "a throw that is not a new one", "throw (?!new )");
        none(code, "static state", "\\bstatic (?!final|class)\\w+(\\[\\])* \\w+( =|;)");
        CHECKS.due("classes inside", true, () -> count(code, "\\bclass\\b") - 1 <= MOST_CLASSES);
        CHECKS.due("characters up to 255", true, () -> source.chars().allMatch(c -> c < 256));
        methodsAreShort(code);
        CHECKS.end();
    }

    private static String withoutTextsAndComments(String source) {
        return source.replaceAll("\"[^\"\\n]*\"", "\"\"").replaceAll("//[^\\n]*", "")
            .replaceAll("(?s)/\\*(?:(?!\\*/)[^\\n]|(\\n))*\\*/", "");
    }

    private static int count(String code, String pattern) {
        Matcher matcher = Pattern.compile(pattern).matcher(code);
        int found = 0;
        while (matcher.find()) {
            found++;
        }
        return found;
    }

    private static void none(String code, String what, String pattern) {
        CHECKS.due(what, 0, () -> count(code, pattern));
    }

    /** A method begins at an indented line with a bracket and ends at a brace that stands as deep. */
    private static void methodsAreShort(String code) {
        Matcher head = Pattern.compile("(?m)^( {4}| {8})(\\w[\\w\\[\\] ]*)\\(([^)]*)\\)[^;{]*\\{$").matcher(code);
        int methods = 0;
        while (head.find()) {
            String name = head.group(2);
            if (name.matches("(if|for|while|switch|return|throw|\\} else if) ?.*")) {
                continue;
            }
            methods++;
            String rest = code.substring(head.end());
            int end = rest.indexOf("\n" + head.group(1) + "}");
            long lines = rest.substring(0, Math.max(end, 0)).lines().count();
            CHECKS.due(name + " is short", true, () -> lines <= MOST_LINES_OF_A_METHOD);
            int parameters = head.group(3).isBlank() ? 0 : head.group(3).split(",").length;
            CHECKS.due(name + " has few parameters", true, () -> parameters <= MOST_PARAMETERS);
        }
        int found = methods;
        CHECKS.due("methods were found", true, () -> found >= 16);
    }
}
