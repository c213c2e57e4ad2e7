import java.io.IOException;
import java.nio.file.Files;
import java.nio.file.Path;
import java.util.List;
import java.util.regex.Matcher;
import java.util.regex.Pattern;

/** Those rules of LANGUAGE.md that can be read off the text of the program; it is started in the project's directory. */
public final class LanguageTest {
    private static final Path SOURCE = Path.of("src/main/java/WalkPasses.java");
    private static final List<String> RULED_OUT = List.of(
        "\\b(throw|throws|try|catch|finally|synchronized|assert|package|native|volatile)\\b",
        "\\b(double|float|Object|Random|System\\.(?!arraycopy\\b)\\w+|Thread|Exception|Error)\\b",
        "\\b(equals|hashCode|toString)\\b",
        "->|::|@",
        "\\b\\w+Exact\\b",
        "\\bimport (?!java\\.util\\.Arrays;).*",
        "\\bstatic \\{",
        "\\bArrays\\.(?!fill\\b|copyOf\\b|copyOfRange\\b)\\w+",
        "\\bMath\\.(?!min\\b|max\\b)\\w+",
        "\\[\\]\\[\\]\\[\\]",
        "[^\\x00-\\x7f]");
    private static final int MOST_LINES_OF_METHOD = 60;
    private static final int MOST_CLASSES = 12;
    private static final int MOST_PARAMETERS = 7;
    private static int wrong = 0;

    private static void tell(String fault) {
        wrong++;
        System.out.println(fault);
    }

    private static String withoutComments(String text) {
        return text.replaceAll("(?s)/\\*.*?\\*/", "").replaceAll("//[^\n]*", "");
    }

    private static void words(String code) {
        for (String pattern : RULED_OUT) {
            Matcher m = Pattern.compile(pattern).matcher(code);
            while (m.find()) tell("ruled out: " + m.group());
        }
    }

    private static void methods(String code) {
        Matcher m = Pattern.compile("(?m)^( +)[\\w\\[\\] ]*\\w\\(([^()]*)\\) \\{$(?s:.*?)^\\1\\}$").matcher(code);
        int found = 0;
        while (m.find()) {
            found++;
            if (m.group().lines().count() > MOST_LINES_OF_METHOD) tell("too long: " + m.group().lines().findFirst().get());
            if (m.group(2).split(",").length > MOST_PARAMETERS) tell("too many parameters: " + m.group(2));
        }
        if (found < 23) tell("only " + found + " methods were found to look at");
    }

    private static void classes(String code) {
        long found = Pattern.compile("\\b(class|interface|enum|record) [A-Z]").matcher(code).results().count();
        if (found > MOST_CLASSES) tell("too many classes: " + found);
    }

    public static void main(String[] args) throws IOException {
        String code = withoutComments(Files.readString(SOURCE));
        words(code);
        methods(code);
        classes(code);
        System.out.println(wrong == 0 ? "the language is kept to" : wrong + " faults of language");
        if (wrong != 0) System.exit(1);
    }
}
