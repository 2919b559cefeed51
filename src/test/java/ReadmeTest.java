import java.io.IOException;
import java.lang.reflect.Method;
import java.lang.reflect.Modifier;
import java.nio.file.Files;
import java.nio.file.Path;
import java.util.Arrays;
import java.util.Set;
import java.util.TreeMap;
import java.util.TreeSet;
import java.util.regex.MatchResult;
import java.util.regex.Matcher;
import java.util.regex.Pattern;
import java.util.stream.Collectors;
import java.util.stream.Stream;

/** What README.md says agrees with the class and with the tests there are; .ci/run starts it at the project's root. */
public final class ReadmeTest {
    private static final Pattern MADE = Pattern.compile("ExtentFileTree tree = new ExtentFileTree\\(\\);");
    private static final Pattern CALLED = Pattern.compile("tree\\.(\\w+)\\((.*)\\); *// (-?\\w+)(: .*)?");

    public static void main(String[] args) throws ReflectiveOperationException, IOException {
        Due due = new Due();
        String readme = Files.readString(Path.of("README.md"));
        theExampleAnswersAsItSays(due, readme);
        theCallsAreThoseOfTheClass(due, readme);
        theCodesAreThoseOfTheClass(due, readme);
        theTestsAreThoseThatThereAre(due, readme);
        theFilesItNamesAreThere(due, readme);
        due.end();
    }

    private static String between(String text, String start, String end) {
        int from = text.indexOf(start) + start.length();
        return text.substring(from, text.indexOf(end, from));
    }

    private static void theExampleAnswersAsItSays(Due due, String readme) throws ReflectiveOperationException {
        ExtentFileTree tree = null;
        Set<String> shown = new TreeSet<>();
        for (String line : between(readme, "```java\n", "```").split("\n")) {
            Matcher call = CALLED.matcher(line);
            if (MADE.matcher(line).matches()) {
                tree = new ExtentFileTree();
            } else if (tree == null || !call.matches()) {
                due.same("a line of the example", line, "a call on the tree with its answer");
            } else {
                shown.add(call.group(1));
                due.is(line, answer(tree, call.group(1), call.group(2)), number(call.group(3)));
            }
        }
        due.is("the example shows most of the calls", shown.size() >= 10 ? 1 : 0, 1);
    }

    private static int answer(ExtentFileTree tree, String name, String list) throws ReflectiveOperationException {
        Object[] arguments = Arrays.stream(list.split(", ")).filter(word -> !word.isEmpty())
                .map(ReadmeTest::argument).toArray();
        Class<?>[] types = Arrays.stream(arguments)
                .map(argument -> argument instanceof Boolean ? boolean.class : int.class).toArray(Class<?>[]::new);
        return (int) ExtentFileTree.class.getMethod(name, types).invoke(tree, arguments);
    }

    private static Object argument(String word) {
        if (word.equals("true") || word.equals("false")) {
            return Boolean.valueOf(word);
        }
        return Integer.valueOf(word);
    }

    private static int number(String word) throws ReflectiveOperationException {
        return word.matches("-?\\d+") ? Integer.parseInt(word) : ExtentFileTree.class.getField(word).getInt(null);
    }

    private static void theCallsAreThoseOfTheClass(Due due, String readme) {
        Set<String> told = new TreeSet<>();
        Matcher row = Pattern.compile("(?m)^\\| `(\\w+)\\((.*?)\\)` \\|").matcher(readme);
        while (row.find()) {
            told.add(row.group(1) + "(" + row.group(2).replaceAll(" \\w+(,|$)", "$1") + ")");
        }
        Set<String> there = new TreeSet<>();
        for (Method method : ExtentFileTree.class.getDeclaredMethods()) {
            if (Modifier.isPublic(method.getModifiers())) {
                String types = Arrays.toString(method.getParameterTypes()).replace('[', '(').replace(']', ')');
                there.add(method.getName() + types);
            }
        }
        due.same("the calls in README.md", told, there);
    }

    private static void theCodesAreThoseOfTheClass(Due due, String readme) throws IllegalAccessException {
        TreeMap<String, Integer> told = new TreeMap<>();
        Matcher row = Pattern.compile("(?m)^\\| `([A-Z]+)` \\| (-?\\d+) \\|").matcher(readme);
        while (row.find()) {
            told.put(row.group(1), Integer.valueOf(row.group(2)));
        }
        TreeMap<String, Integer> there = new TreeMap<>();
        for (var field : ExtentFileTree.class.getFields()) {
            there.put(field.getName(), field.getInt(null));
        }
        due.same("the codes in README.md", told, there);
    }

    private static Set<String> wordsInQuotes(String text, String form) {
        return Pattern.compile("`(" + form + ")`").matcher(text).results()
                .map((MatchResult found) -> found.group(1)).collect(Collectors.toCollection(TreeSet::new));
    }

    /** "PromiseNN...Test" and "EdgesNN...Test" stand for one file for each of the 16 promises; all others are named. */
    private static void theTestsAreThoseThatThereAre(Due due, String readme) throws IOException {
        Set<String> there = new TreeSet<>();
        try (Stream<Path> files = Files.list(Path.of("src/test/java"))) {
            files.map(file -> file.getFileName().toString().replace(".java", "")).forEach(there::add);
        }
        for (String series : new String[] {"Promise", "Edges"}) {
            due.is(series + "NN...Test is told of", wordsInQuotes(readme, series + "NN\\.\\.\\.Test").size(), 1);
            for (int promise = 1; promise <= 16; promise++) {
                String start = String.format("%s%02d", series, promise);
                long found = there.stream().filter(name -> name.startsWith(start) && name.endsWith("Test")).count();
                due.is("tests with the name " + start, found, 1);
                there.removeIf(name -> name.startsWith(start));
            }
        }
        String tests = readme.substring(readme.indexOf("## How to run the tests"));
        due.same("the other files in src/test/java", wordsInQuotes(tests, "[A-Z]\\w+"), there);
    }

    private static void theFilesItNamesAreThere(Due due, String readme) {
        for (String path : wordsInQuotes(readme, "[\\w.]+(/[\\w.]+)+")) {
            due.is(path + " is there", Files.exists(Path.of(path)) ? 1 : 0, 1);
        }
        due.is(".ci/run can be run", Files.isExecutable(Path.of(".ci/run")) ? 1 : 0, 1);
        due.is(".ci/run is told of", readme.contains("\n    .ci/run\n") ? 1 : 0, 1);
        Matcher single = Pattern.compile("(?m)^ {4}java -cp out (\\w+)$").matcher(readme);
        due.is("one test alone is told of", single.find() ? 1 : 0, 1);
        due.is(single.group(1) + " is there", Files.exists(Path.of("src/test/java", single.group(1) + ".java")) ? 1 : 0, 1);
    }
}
