import java.lang.reflect.Field;
import java.lang.reflect.Method;
import java.lang.reflect.Modifier;
import java.nio.file.Files;
import java.nio.file.Path;
import java.util.Arrays;
import java.util.List;
import java.util.Set;
import java.util.TreeSet;
import java.util.regex.Matcher;
import java.util.regex.Pattern;

/** The rules of LANGUAGE.md that a look at the file and at the compiled class can tell. */
public final class LanguageTest {
    private static final String SOURCE = "src/main/java/NeverHalted.java";
    private static final List<String> FACE = List.of("state", "walker", "set", "road", "feed", "end", "text", "fault",
        "hours", "move", "carry", "of", "stone", "roadOf", "book", "goes", "cover", "watches", "tour", "meets", "sees",
        "fits", "crossed", "line", "owes", "asks", "undo", "image", "look");
    private static final Set<String> LIBRARY = Set.of("Math.min", "Math.max", "Math.abs", "Math.floorMod",
        "Integer.bitCount", "Arrays.fill", "System.arraycopy", "WORDS.length", "WORDS.charAt");

    public static void main(String[] args) throws Exception {
        String code = withoutTexts(Files.readString(Path.of(SOURCE)));
        rule1Face();
        rule2Classes();
        rule4Library(code);
        rule5StaticFields();
        rule6Words(code);
        rule11Sizes(code);
        Due.close();
    }

    /** Comments, texts and signs are blotted out, the lines stay. */
    private static String withoutTexts(String source) {
        Matcher m = Pattern.compile("/\\*.*?\\*/|//[^\n]*|\"[^\"\n]*\"|'\\\\?[^\n]'", Pattern.DOTALL).matcher(source);
        return m.replaceAll(r -> "0" + "\n".repeat((int) r.group().chars().filter(c -> c == '\n').count()));
    }

    private static void rule1Face() {
        Class<?> c = NeverHalted.class;
        Due.yes("public and final", Modifier.isPublic(c.getModifiers()) && Modifier.isFinal(c.getModifiers()));
        Set<String> open = new TreeSet<>();
        for (Method m : c.getDeclaredMethods()) {
            if (Modifier.isPublic(m.getModifiers())) {
                Due.yes(m.getName() + " is told once", open.add(m.getName()));
            } else {
                Due.yes(m.getName() + " is private", Modifier.isPrivate(m.getModifiers()));
                Due.no(m.getName() + " is a public name", FACE.contains(m.getName()));
            }
        }
        Due.yes("the face " + open, open.equals(new TreeSet<>(FACE)));
        for (Field f : c.getDeclaredFields()) {
            boolean isNone = f.getName().equals("NONE");
            Due.yes("field " + f.getName(), isNone == Modifier.isPublic(f.getModifiers()));
            Due.yes("field " + f.getName(), isNone != Modifier.isPrivate(f.getModifiers()));
        }
        Due.is("constructors", c.getDeclaredConstructors().length, 1);
    }

    private static void rule2Classes() {
        Class<?>[] inside = NeverHalted.class.getDeclaredClasses();
        Due.yes("at most twelve classes", inside.length + 1 <= 12);
        for (Class<?> c : inside) {
            Due.yes(c + " is static and private", Modifier.isStatic(c.getModifiers()) && Modifier.isPrivate(c.getModifiers()));
            for (Method m : c.getDeclaredMethods()) {
                Due.no(c + "." + m.getName() + " is a public name", FACE.contains(m.getName()));
                Due.no(c + "." + m.getName() + " is made by the compiler", m.isSynthetic());
            }
        }
    }

    private static void rule4Library(String code) {
        Matcher imports = Pattern.compile("import ([^;]*);").matcher(code);
        while (imports.find()) {
            Due.yes(imports.group(1), imports.group(1).equals("java.util.Arrays"));
        }
        Matcher calls = Pattern.compile("\\b[A-Z]\\w*\\.\\w+(?=\\()").matcher(code);
        while (calls.find()) {
            Due.yes(calls.group() + " is in the library's part", LIBRARY.contains(calls.group()));
        }
    }

    private static void rule5StaticFields() {
        for (Field f : NeverHalted.class.getDeclaredFields()) {
            if (Modifier.isStatic(f.getModifiers())) {
                Due.yes(f.getName() + " is final", Modifier.isFinal(f.getModifiers()));
                List<Class<?>> kinds = Arrays.asList(int.class, String.class, int[].class);
                Due.yes(f.getName() + " is of its kind", kinds.contains(f.getType()));
            }
        }
    }

    private static void rule6Words(String code) {
        String[] words = {"throw", "throws", "try", "catch", "finally", "synchronized", "assert", "protected", "package",
            "volatile", "instanceof", "null", "Object", "hashCode", "toString", "equals", "float", "double", "yield", "var"};
        for (String word : words) {
            Due.no("the word " + word, Pattern.compile("\\b" + word + "\\b").matcher(code).find());
        }
        Due.no("a lambda", code.contains("->"));
        Due.no("a method reference", code.contains("::"));
        Due.no("a static block", Pattern.compile("static\\s*\\{").matcher(code).find());
    }

    private static void rule11Sizes(String code) {
        String[] lines = code.split("\n");
        Pattern head = Pattern.compile("^( {4}| {8})((public|private|static|final|int|boolean|void|\\w+) )*\\w+\\(([^()]*)\\) \\{$");
        for (int i = 0; i < lines.length; i++) {
            Matcher m = head.matcher(lines[i]);
            if (!m.find()) {
                continue;
            }
            int to = i;
            while (!lines[to].equals(m.group(1) + "}")) {
                to++;
            }
            Due.yes("the length of " + lines[i].trim(), to - i <= 60);
            Due.yes("the parameters of " + lines[i].trim(), m.group(4).split(",").length <= 7);
        }
        for (Class<?> c : NeverHalted.class.getDeclaredClasses()) {
            Due.yes("the fields of " + c, c.getDeclaredFields().length <= 20);
        }
        long own = Arrays.stream(NeverHalted.class.getDeclaredFields()).filter(f -> !Modifier.isStatic(f.getModifiers())).count();
        Due.yes("the fields of the class", own <= 20);
    }
}
