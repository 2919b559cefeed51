import java.io.IOException;
import java.nio.file.Files;
import java.nio.file.Path;
import java.util.ArrayList;
import java.util.List;
import java.util.Set;
import java.util.TreeSet;
import java.util.regex.Matcher;
import java.util.regex.Pattern;

/** Those rules of LANGUAGE.md that the words of the source alone can show; .ci/run starts it at the project's root. */
public final class LanguageTest {
    private static final Path SOURCE = Path.of("src/main/java/ExtentFileTree.java");
    private static final Set<String> FORBIDDEN = Set.of(
            "package", "import", "interface", "enum", "record", "float", "double", "null", "throw", "throws", "try",
            "catch", "finally", "synchronized", "assert", "instanceof", "protected", "var", "super", "native");
    private static final Set<String> UPPER_CASE_WORDS = Set.of("ExtentFileTree");
    private static final int LONGEST_METHOD = 60;

    public static void main(String[] args) throws IOException {
        Due due = new Due();
        String text = Files.readString(SOURCE);
        String code = text.replaceAll("//[^\n]*", "").replaceAll("(?s)/\\*.*?\\*/", "");
        forbiddenWords(due, code);
        noOtherClasses(due, code);
        arraysInFieldsOnly(due, code);
        shortMethods(due, code);
        due.end();
    }

    private static void forbiddenWords(Due due, String code) {
        Set<String> found = new TreeSet<>();
        Matcher word = Pattern.compile("[A-Za-z_]\\w*").matcher(code);
        while (word.find()) {
            if (FORBIDDEN.contains(word.group())) {
                found.add(word.group());
            }
        }
        due.same("forbidden words", found, Set.of());
        due.same("lambdas, method references, texts", code.matches("(?s).*(->|::|\"|@).*"), false);
    }

    private static void noOtherClasses(Due due, String code) {
        Set<String> found = new TreeSet<>();
        Matcher word = Pattern.compile("\\b[A-Z]\\w*[a-z]\\w*").matcher(code);
        while (word.find()) {
            found.add(word.group());
        }
        due.same("names of classes", found, UPPER_CASE_WORDS);
    }

    private static void arraysInFieldsOnly(Due due, String code) {
        List<String> others = new ArrayList<>();
        for (String line : code.split("\n")) {
            boolean field = line.matches(" {4}private final \\w+\\[\\] \\w+ = new \\w+\\[\\w+\\];");
            if (line.contains("new ") && !field) {
                others.add(line);
            }
        }
        due.same("arrays made outside of fields", others, List.of());
    }

    private static void shortMethods(Due due, String code) {
        List<String> tooLong = new ArrayList<>();
        Matcher method = Pattern.compile("(?ms)^ {4}(p[^\n;]*\\{)\n.*?^ {4}\\}").matcher(code);
        while (method.find()) {
            if (method.group().split("\n").length > LONGEST_METHOD) {
                tooLong.add(method.group(1));
            }
        }
        due.same("methods that are too long", tooLong, List.of());
    }
}
