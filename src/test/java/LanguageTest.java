import java.io.IOException;
import java.lang.reflect.Field;
import java.lang.reflect.Method;
import java.lang.reflect.Modifier;
import java.nio.file.Files;
import java.nio.file.Path;
import java.util.ArrayList;
import java.util.HashMap;
import java.util.List;
import java.util.Map;
import java.util.Set;
import java.util.TreeSet;
import java.util.regex.Matcher;
import java.util.regex.Pattern;

/** The source keeps to rules 2 to 13 of LANGUAGE.md, as far as the text or the class shows it. */
public final class LanguageTest {
    private static final String[] NEVER = {"throw", "throws", "try", "catch", "finally", "synchronized", "assert", "import",
        "package", "native", "float", "double", "instanceof", "record", "enum", "interface", "->", "::", "@"};
    private static final Set<String> LIBRARY = Set.of("Math.max", "Math.min", "Math.abs", "Integer.bitCount", "System.arraycopy");
    private static final Set<String> OF_TEXTS = Set.of("length", "charAt");
    private static final int DEEPEST = 8, LONGEST = 60, MOST_NUMBERS = 7, MOST_FIELDS = 20, MOST_CLASSES = 12;

    private static final Pattern HEAD = Pattern.compile(" {4}(?: {4})?(?:\\w+ )*(?:[\\w\\[\\]]+ )?(\\w+)\\([^()]*\\) \\{");

    private final List<Class<?>> classes = new ArrayList<>(List.of(TentPegs.class));
    private final String whole;
    private final String code;
    private final Map<String, List<String>> bodies = new HashMap<>();

    private LanguageTest(String whole) {
        this.whole = whole;
        this.code = whole.replaceAll("(?s)/\\*.*?\\*/", " ").replaceAll("//[^\n]*", " ").replaceAll("\"[^\"\n]*\"", "\"\"");
        classes.addAll(List.of(TentPegs.class.getDeclaredClasses()));
    }

    public static void main(String[] args) throws IOException {
        LanguageTest test = new LanguageTest(Files.readString(Path.of("src/main/java/TentPegs.java")));
        test.classesInside();
        test.fields();
        test.library();
        test.words();
        test.methods();
        test.deep();
        test.made();
        Due.end("LanguageTest");
    }

    /** Rules 2 and 11. */
    private void classesInside() {
        for (Class<?> c : TentPegs.class.getDeclaredClasses()) {
            Due.holds("static and not public: " + c, Modifier.isStatic(c.getModifiers()) && !Modifier.isPublic(c.getModifiers()));
        }
        Due.holds("some twelve classes", classes.size() <= MOST_CLASSES);
        Due.holds("no class without a name", !Pattern.compile("\\bnew \\w+\\([^;]*\\) \\{").matcher(code).find());
        Due.due("classes in the file", Pattern.compile("\\bclass \\w+").matcher(code).results().count(), classes.size());
    }

    /** Rules 3, 5 and 11. */
    private void fields() {
        for (Class<?> c : classes) {
            int kept = 0;
            for (Field f : c.getDeclaredFields()) {
                boolean isStatic = Modifier.isStatic(f.getModifiers());
                kept += isStatic ? 0 : 1;
                Due.holds("static fields are final: " + f, !isStatic || Modifier.isFinal(f.getModifiers()));
                Due.holds("static fields are constants: " + f, !isStatic || f.getType().isPrimitive());
                Due.holds("a type of its own, or of numbers: " + f, isPlain(f.getType()));
            }
            Due.holds("some twenty fields: " + c, kept <= MOST_FIELDS);
        }
    }

    private boolean isPlain(Class<?> type) {
        Class<?> part = type.isArray() ? type.getComponentType() : type;
        return part.isPrimitive() && part != double.class && part != float.class || classes.contains(part);
    }

    /** Rule 4. */
    private void library() {
        Set<String> own = new TreeSet<>();
        for (Class<?> c : classes) {
            for (Method m : c.getDeclaredMethods()) {
                own.add(m.getName());
            }
        }
        Matcher call = Pattern.compile("(\\w+)\\.(\\w+)\\(").matcher(code);
        while (call.find()) {
            boolean listed = LIBRARY.contains(call.group(1) + "." + call.group(2)) || OF_TEXTS.contains(call.group(2));
            Due.holds("from the library: " + call.group(), listed || own.contains(call.group(2)));
        }
    }

    /** Rules 6, 10 and 13. */
    private void words() {
        for (String word : NEVER) {
            String alone = word.matches("[a-z]+") ? "\\b" + word + "\\b" : word;
            Due.holds("never in the source: " + word, !Pattern.compile(alone).matcher(code).find());
        }
        Due.holds("texts are not joined by +", !Pattern.compile("\"\\s*\\+|\\+=?\\s*\"").matcher(code).find());
        Due.holds("texts are not held against each other", !Pattern.compile("[=!]=\\s*\"|\"\\s*[=!]=").matcher(code).find());
        Due.holds("signs of texts are 1 to 127", whole.chars().allMatch(c -> c >= 1 && c <= 127));
    }

    /** Rule 11; the bodies are kept for what is below. */
    private void methods() {
        for (Class<?> c : classes) {
            for (Method m : c.getDeclaredMethods()) {
                Due.holds("seven parameters at most: " + m, m.getParameterCount() <= MOST_NUMBERS);
            }
        }
        String name = null;
        int start = 0;
        String[] lines = whole.split("\n");
        for (int i = 0; i < lines.length; i++) {
            Due.holds("a line is short: " + lines[i], lines[i].length() <= 120);
            Matcher head = HEAD.matcher(lines[i]);
            if (name == null && head.matches()) {
                name = head.group(1);
                start = i;
            } else if (name != null && lines[i].equals(lines[start].replaceAll("\\S.*", "") + "}")) {
                Due.holds("methods stay short: " + name, i - start <= LONGEST);
                bodies.computeIfAbsent(name, k -> new ArrayList<>()).add(String.join("\n", List.of(lines).subList(start + 1, i)));
                name = null;
            }
        }
        for (Method m : TentPegs.class.getDeclaredMethods()) {
            Due.holds("a method was found in the text: " + m, m.isSynthetic() || bodies.containsKey(m.getName()));
        }
    }

    /** Rules 8 and 11: those of one name count as one. */
    private void deep() {
        for (String name : bodies.keySet()) {
            Due.holds("calls go " + DEEPEST + " deep at most: " + name, deepFrom(name, 1) <= DEEPEST);
        }
    }

    private int deepFrom(String name, int depth) {
        int most = depth;
        for (String body : bodies.get(name)) {
            Matcher call = Pattern.compile("\\b(\\w+)\\(").matcher(body);
            while (depth <= DEEPEST && call.find()) {
                most = bodies.containsKey(call.group(1)) ? Math.max(most, deepFrom(call.group(1), depth + 1)) : most;
            }
        }
        return most;
    }

    /** Rule 12, more strictly: all that is made is made with an object's fields. */
    private void made() {
        for (String line : code.split("\n")) {
            Due.holds("made with the object: " + line, !line.matches(".*\\bnew\\b.*") || line.matches(" {4}(?: {4})?(private )?final .* = .*;"));
        }
    }
}
