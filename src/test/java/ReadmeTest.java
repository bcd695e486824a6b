import java.io.IOException;
import java.lang.reflect.InvocationTargetException;
import java.lang.reflect.Method;
import java.lang.reflect.Modifier;
import java.nio.file.Files;
import java.nio.file.Path;
import java.util.Arrays;
import java.util.List;
import java.util.TreeSet;
import java.util.regex.Matcher;
import java.util.regex.Pattern;
import java.util.stream.Collectors;
import java.util.stream.Stream;

/** README.md: its examples are run line by line, and what it names is held against what there is. */
public final class ReadmeTest {
    private static final String MADE = "BunchNotes x = new BunchNotes();";
    private static final Pattern TYPED = Pattern.compile("for \\(char letter : \"(.*)\"\\.toCharArray\\(\\)\\) \\{");
    private static final List<String> BODY = List.of("    x.type(letter);", "}");
    private static final Pattern ASKED = Pattern.compile("x\\.(\\w+)\\(([-0-9, ]*)\\); +// (-?\\d+|[A-Z]+)\\b.*");

    private static final Due due = new Due();

    private ReadmeTest() {
    }

    public static void main(String[] args) throws IOException, IllegalAccessException, InvocationTargetException {
        String page = Files.readString(Path.of("README.md"));
        TreeSet<String> shown = new TreeSet<>();
        Matcher example = Pattern.compile("(?s)```java\n(.*?)```").matcher(page);
        while (example.find()) {
            run(example.group(1).split("\n"), shown);
        }
        due.holds("examples show calls enough: " + shown, shown.size() > 20);
        calls(page);
        classes(page);
        tests(page);
        due.end();
    }

    private static void run(String[] lines, TreeSet<String> shown)
            throws IllegalAccessException, InvocationTargetException {
        BunchNotes x = null;
        for (String line : lines) {
            Matcher typed = TYPED.matcher(line);
            Matcher asked = ASKED.matcher(line);
            if (line.equals(MADE)) {
                x = new BunchNotes();
            } else if (x != null && typed.matches()) {
                Nets.typeAll(x, typed.group(1));
            } else if (x != null && asked.matches()) {
                shown.add(asked.group(1));
                due.is("README: " + line, answer(x, asked.group(1), asked.group(2)), number(asked.group(3)));
            } else {
                due.holds("README: a line that can be run: " + line, BODY.contains(line));
            }
        }
    }

    private static int answer(BunchNotes x, String name, String given)
            throws IllegalAccessException, InvocationTargetException {
        Object[] numbers = given.isEmpty() ? new Object[0]
                : Arrays.stream(given.split(", ")).map(Integer::valueOf).toArray();
        for (Method method : BunchNotes.class.getMethods()) {
            if (method.getName().equals(name) && method.getParameterCount() == numbers.length) {
                return (int) method.invoke(x, numbers);
            }
        }
        due.holds("README: a call of the face: " + name, false);
        return 0;
    }

    private static int number(String told) throws IllegalAccessException {
        if (!Character.isLetter(told.charAt(0))) {
            return Integer.parseInt(told);
        }
        return Arrays.stream(BunchNotes.class.getFields()).filter(field -> field.getName().equals(told))
                .findFirst().orElseThrow().getInt(null);
    }

    /** The names in the first column of the table. */
    private static void calls(String page) {
        TreeSet<String> named = new TreeSet<>();
        Matcher row = Pattern.compile("(?m)^\\| (`.*?) \\|").matcher(page);
        while (row.find()) {
            for (String name : row.group(1).replace("`", "").split(", ")) {
                due.holds("README: " + name + " stands once in the table", named.add(name));
            }
        }
        TreeSet<String> there = new TreeSet<>();
        for (Method method : BunchNotes.class.getDeclaredMethods()) {
            if (Modifier.isPublic(method.getModifiers())) {
                there.add(method.getName());
            }
        }
        due.holds("README: the calls of the table, " + named + ", are those of the face", named.equals(there));
    }

    private static void classes(String page) {
        for (Class<?> inside : BunchNotes.class.getDeclaredClasses()) {
            due.holds("README: " + inside.getSimpleName(), page.contains("`" + inside.getSimpleName() + "`"));
        }
    }

    private static void tests(String page) throws IOException {
        TreeSet<String> named = new TreeSet<>();
        Matcher test = Pattern.compile("`(\\w+Test)`").matcher(page);
        while (test.find()) {
            named.add(test.group(1));
        }
        try (Stream<Path> files = Files.list(Path.of("src/test/java"))) {
            TreeSet<String> there = files.map(file -> file.getFileName().toString())
                    .filter(name -> name.endsWith("Test.java"))
                    .map(name -> name.substring(0, name.length() - ".java".length()))
                    .collect(Collectors.toCollection(TreeSet::new));
            due.holds("README: the tests it names, " + named + ", are those there are", named.equals(there));
        }
        due.holds("README: .ci/run can be run", page.contains("\n    .ci/run\n")
                && Files.isExecutable(Path.of(".ci/run")));
    }
}
