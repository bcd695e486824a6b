import java.io.IOException;
import java.lang.reflect.Constructor;
import java.lang.reflect.Field;
import java.lang.reflect.Method;
import java.lang.reflect.Modifier;
import java.nio.charset.StandardCharsets;
import java.nio.file.Files;
import java.nio.file.Path;
import java.util.Arrays;
import java.util.Map;
import java.util.TreeMap;
import java.util.TreeSet;
import java.util.regex.Matcher;
import java.util.regex.Pattern;

/** The public face of the document, and those rules of the language that a look can check. */
public final class FaceTest {
    private static final String FACE = "type 1, erase 0, fault 0, net 0, link 2, level 1, join 3, cut 2, lift 2, "
            + "draw 1, thin 1, undo 0, keep 1, back 1, distance 2, nearest 3, bunch 2, next 2, thinned 2, worst 2, "
            + "note 1, mend 0, tear 1, noted 2, notedFar 2, told 3, why 3, route 3, pairs 1, count 1";
    private static final String[] BANNED = {
        "throw", "throws", "try", "catch", "synchronized", "assert", "package", "volatile", "transient",
        "native", "var", "double", "float", "Object", "System.out", "Exact", "->", "::", "hashCode", "toString"};

    private static final Due due = new Due();

    private FaceTest() {
    }

    public static void main(String[] args) throws IOException {
        constants();
        members();
        nestedClasses();
        String source = Files.readString(Path.of("src/main/java/BunchNotes.java"), StandardCharsets.US_ASCII);
        String code = source.replaceAll("(?s)/\\*.*?\\*/", "").replaceAll("//[^\n]*", "");
        words(code);
        imports(code);
        lengths(source);
        due.end();
    }

    private static void constants() {
        due.is("NONE", BunchNotes.NONE, -1);
        due.is("UNKNOWN", BunchNotes.UNKNOWN, -2);
        due.is("OUTSIDE", BunchNotes.OUTSIDE, -3);
        due.is("NOT", BunchNotes.NOT, -4);
        due.is("FULL", BunchNotes.FULL, -5);
    }

    private static void members() {
        Class<?> face = BunchNotes.class;
        due.holds("the class is public and final", Modifier.isPublic(face.getModifiers())
                && Modifier.isFinal(face.getModifiers()));
        due.is("constructors", face.getDeclaredConstructors().length, 1);
        for (Constructor<?> made : face.getDeclaredConstructors()) {
            due.holds("the constructor is public and takes nothing", Modifier.isPublic(made.getModifiers())
                    && made.getParameterCount() == 0);
        }
        Map<String, Integer> seen = new TreeMap<>();
        for (Method method : face.getDeclaredMethods()) {
            if (Modifier.isPrivate(method.getModifiers())) {
                due.holds(method + " bears no public name", !publicNames().containsKey(method.getName()));
                continue;
            }
            boolean ints = method.getReturnType() == int.class
                    && Arrays.stream(method.getParameterTypes()).allMatch(type -> type == int.class);
            due.holds(method + " is public, not static, of ints", Modifier.isPublic(method.getModifiers())
                    && !Modifier.isStatic(method.getModifiers()) && ints);
            seen.put(method.getName(), method.getParameterCount());
        }
        due.holds("methods are those of the document: " + seen, seen.equals(publicNames()));
        TreeSet<String> open = new TreeSet<>();
        for (Field field : face.getDeclaredFields()) {
            if (!Modifier.isPrivate(field.getModifiers())) {
                open.add(field.getName());
            }
        }
        due.holds("open fields are the constants: " + open,
                open.equals(new TreeSet<>(Arrays.asList("NONE", "UNKNOWN", "OUTSIDE", "NOT", "FULL"))));
    }

    private static Map<String, Integer> publicNames() {
        Map<String, Integer> names = new TreeMap<>();
        for (String row : FACE.split(", ")) {
            names.put(row.split(" ")[0], Integer.parseInt(row.split(" ")[1]));
        }
        return names;
    }

    private static void nestedClasses() {
        Class<?>[] nested = BunchNotes.class.getDeclaredClasses();
        due.holds("at most some twelve classes", nested.length <= 11);
        for (Class<?> inside : nested) {
            due.holds(inside + " is static", Modifier.isStatic(inside.getModifiers()));
            due.holds(inside + " is not open", !Modifier.isPublic(inside.getModifiers())
                    && !Modifier.isProtected(inside.getModifiers()));
            for (Method method : inside.getDeclaredMethods()) {
                due.holds(method + " bears no name of the face", !publicNames().containsKey(method.getName()));
                due.holds(method + " takes at most seven", method.getParameterCount() <= 7);
            }
            int fields = 0;
            for (Field field : inside.getDeclaredFields()) {
                boolean still = Modifier.isStatic(field.getModifiers());
                fields += still ? 0 : 1;
                due.holds(field + " is final if static", !still || Modifier.isFinal(field.getModifiers()));
            }
            due.holds(inside + " has at most some twenty fields", fields <= 20);
        }
    }

    private static void words(String code) {
        for (String word : BANNED) {
            boolean letters = Character.isLetter(word.charAt(0));
            String edge = letters ? "\\b" : "";
            Matcher found = Pattern.compile(edge + Pattern.quote(word) + edge).matcher(code);
            due.holds("no '" + word + "'", !found.find());
        }
    }

    private static void imports(String code) {
        Matcher found = Pattern.compile("import ([^;]*);").matcher(code);
        while (found.find()) {
            due.holds("import " + found.group(1), found.group(1).equals("java.util.Arrays"));
        }
        due.holds("no library by its long name", !code.replaceAll("import [^;]*;", "").contains("java."));
    }

    /** A method's lines run from the brace that opens it to the one at the same indent. */
    private static void lengths(String source) {
        String[] lines = source.split("\n");
        for (int i = 0; i < lines.length; i++) {
            Matcher head = Pattern.compile("^( {4}| {8})\\w.*\\) \\{$").matcher(lines[i]);
            if (!head.find()) {
                continue;
            }
            int last = i;
            while (!lines[last].equals(head.group(1) + "}")) {
                last++;
            }
            due.holds("short enough: " + lines[i].trim(), last - i < 60);
        }
    }
}
