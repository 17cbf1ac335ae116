import java.io.IOException;
import java.nio.file.Files;
import java.nio.file.Path;
import java.util.List;
import java.util.regex.Matcher;
import java.util.regex.Pattern;

/** The rules of LANGUAGE.md that can be seen in the source's text; run from the project's root, as .ci/run does. */
public final class RulesTest {
    private static final Path SOURCE = Path.of("src", "main", "java", "OffsetRows.java");
    private static final int LONGEST_METHOD = 60;
    private static final int MOST_CLASSES = 12;

    private static final String OWN = "(IllegalStateException|IllegalArgumentException|IndexOutOfBoundsException"
        + "|ArithmeticException|UnsupportedOperationException|NoSuchElementException|RuntimeException)";

    /** A rule's number and what must not stand in the code, comments and texts left out. */
    private static final List<String[]> BARRED = List.of(
        new String[] {"0 (no package line)", "^package\\b"},
        new String[] {"2", "^(?!\\s*(case|default)\\b).*->"},
        new String[] {"2", "::"},
        new String[] {"4", "^import (?!java\\.util\\.(Arrays|ArrayList|List|Iterator|NoSuchElementException);)"},
        new String[] {"4", "\\b\\w+Exact\\("},
        new String[] {"4", "\\bjava\\.(?!util\\.)"},
        new String[] {"5", "\\bstatic\\s*\\{"},
        new String[] {"6", "\\b(finally|synchronized|assert)\\b"},
        new String[] {"6", "\\bthrow (?!new " + OWN + "\\(\"?\"?\\);)"},
        new String[] {"6", "\\bcatch \\((?!" + OWN + " )"},
        new String[] {"13", "\\b(System\\.(?!arraycopy)|Thread|Random|Math\\.random)"});

    private static int wrong = 0;

    private static void fault(String text) {
        wrong++;
        System.out.println(text);
    }

    private static String withoutCommentsAndTexts(String source) {
        String code = Pattern.compile("/\\*.*?\\*/", Pattern.DOTALL).matcher(source)
            .replaceAll(found -> found.group().replaceAll("[^\n]", ""));
        return code.replaceAll("//[^\n]*", "").replaceAll("\"[^\"\n]*\"", "\"\"");
    }

    private static void checkBarred(String[] lines) {
        for (String[] barred : BARRED) {
            Pattern pattern = Pattern.compile(barred[1]);
            for (int i = 0; i < lines.length; i++) {
                Matcher matcher = pattern.matcher(lines[i]);
                if (matcher.find()) {
                    fault("line " + (i + 1) + ", rule " + barred[0] + ": " + lines[i].trim());
                }
            }
        }
    }

    /** A method or constructor begins at its head's line and ends at the brace that stands below its first letter. */
    private static void checkLengths(String[] lines) {
        Pattern head = Pattern.compile("^( +)[\\w\\[\\], ]*\\w\\(.*\\{$");
        for (int i = 0; i < lines.length; i++) {
            Matcher matcher = head.matcher(lines[i]);
            if (!matcher.find() || matcher.group(1).length() > 8) {
                continue;
            }
            int end = i;
            while (end < lines.length && !lines[end].equals(matcher.group(1) + "}")) {
                end++;
            }
            if (end - i + 1 > LONGEST_METHOD) {
                fault("line " + (i + 1) + ", rule 11: a method of " + (end - i + 1) + " lines");
            }
        }
    }

    private static void checkClasses(String code) {
        long classes = Pattern.compile("\\b(class|record|enum|interface) [A-Z]").matcher(code).results().count();
        if (classes > MOST_CLASSES) {
            fault("rule 11: " + classes + " classes");
        }
    }

    public static void main(String[] args) throws IOException {
        String code = withoutCommentsAndTexts(Files.readString(SOURCE));
        String[] lines = code.split("\n");
        checkBarred(lines);
        checkLengths(lines);
        checkClasses(code);
        System.out.println(wrong == 0 ? "the source keeps to the rules that its text shows" : wrong + " faults");
        if (wrong != 0) {
            System.exit(1);
        }
    }
}
