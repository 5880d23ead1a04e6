import java.io.IOException;
import java.lang.reflect.Constructor;
import java.lang.reflect.Field;
import java.lang.reflect.Method;
import java.lang.reflect.Modifier;
import java.nio.file.Files;
import java.nio.file.Path;
import java.util.Arrays;
import java.util.Set;
import java.util.TreeSet;
import java.util.regex.Matcher;
import java.util.regex.Pattern;
import java.util.stream.Collectors;

/** The public face is the document's and no more, and the source keeps to LANGUAGE.md where a text shows it. */
public final class FaceTest {
    private static final String[] METHODS = {
        "int tent(int)", "int peg(int,int,int,int)", "int wet(int)", "int wall(int,boolean)", "int odds(int,int)",
        "int type(int)", "int clear()", "int read()", "int gust(int,int)", "int stand(int,boolean)", "int undo()",
        "int of(int,int)", "int pull(int,int,int)", "int first(int,int,int)", "int lost(int,int,int)", "int bears(int)",
        "int twofold(int,int)", "int strokes(int,int,int)", "int chance(int)", "int turn(int)", "int worth(int,int)",
        "int setUp(int,int,int,int)", "int morning(int,int)", "int lent(int,int,int)", "int pence(int,int,int)",
        "int night(int,int,int,int)", "int wake(int,int,int)", "long part(int)", "int image(int)", "int from(int)",
        "int status(int)", "int count(int)", "long digest()"};

    private static final String[] NEVER = {"throw", "throws", "try", "catch", "finally", "synchronized", "assert", "import",
        "package", "new Object", "System\\.out", "System\\.nanoTime", "Random", "Thread", "native", "float", "double",
        "->", "::", "Exact\\(", "@"};

    public static void main(String[] args) throws IOException {
        constants();
        methods();
        classes();
        source(Files.readString(Path.of("src/main/java/TentPegs.java")));
        Due.end("FaceTest");
    }

    private static void constants() {
        Due.due("NONE", TentPegs.NONE, -1);
        Due.due("BAD", TentPegs.BAD, -2);
        Due.due("NO", TentPegs.NO, -3);
        Due.due("FULL", TentPegs.FULL, -4);
        int shown = 0;
        for (Field f : TentPegs.class.getDeclaredFields()) {
            shown += Modifier.isPrivate(f.getModifiers()) ? 0 : 1;
            Due.holds("static fields are final: " + f, !Modifier.isStatic(f.getModifiers()) || Modifier.isFinal(f.getModifiers()));
        }
        Due.due("fields that are shown", shown, 4);
    }

    private static void methods() {
        Set<String> shown = new TreeSet<>();
        Set<String> names = new TreeSet<>();
        for (Method m : TentPegs.class.getDeclaredMethods()) {
            if (Modifier.isPublic(m.getModifiers())) {
                String types = Arrays.stream(m.getParameterTypes()).map(Class::getName).collect(Collectors.joining(","));
                shown.add(m.getReturnType().getName() + " " + m.getName() + "(" + types + ")");
                names.add(m.getName());
            }
        }
        Due.holds("the methods are the document's: " + shown, shown.equals(new TreeSet<>(Arrays.asList(METHODS))));
        for (Method m : TentPegs.class.getDeclaredMethods()) {
            Due.holds("private or public: " + m, Modifier.isPublic(m.getModifiers()) || Modifier.isPrivate(m.getModifiers()));
            Due.holds("no private one has a public one's name: " + m, Modifier.isPublic(m.getModifiers()) || !names.contains(m.getName()));
            Due.holds("seven parameters at most: " + m, m.getParameterCount() <= 7);
        }
        Constructor<?>[] made = TentPegs.class.getDeclaredConstructors();
        Due.holds("one public constructor", made.length == 1 && Modifier.isPublic(made[0].getModifiers()) && made[0].getParameterCount() == 0);
        Due.holds("public and final", Modifier.isPublic(TentPegs.class.getModifiers()) && Modifier.isFinal(TentPegs.class.getModifiers()));
    }

    private static void classes() {
        for (Class<?> c : TentPegs.class.getDeclaredClasses()) {
            Due.holds("static and not public: " + c, Modifier.isStatic(c.getModifiers()) && !Modifier.isPublic(c.getModifiers()));
            int fields = 0;
            for (Field f : c.getDeclaredFields()) {
                fields += Modifier.isStatic(f.getModifiers()) ? 0 : 1;
                Due.holds("static fields are final: " + f, !Modifier.isStatic(f.getModifiers()) || Modifier.isFinal(f.getModifiers()));
            }
            Due.holds("some twenty fields: " + c, fields <= 20);
        }
        Due.holds("some twelve classes", TentPegs.class.getDeclaredClasses().length <= 11);
    }

    private static void source(String whole) {
        String code = whole.replaceAll("(?s)/\\*.*?\\*/", " ").replaceAll("//[^\n]*", " ").replaceAll("\"[^\"\n]*\"", "\"\"");
        for (String word : NEVER) {
            String alone = word.matches("[a-z]+") ? "\\b" + word + "\\b" : word;
            Matcher m = Pattern.compile(alone).matcher(code);
            Due.holds("never in the source: " + word, !m.find());
        }
        Matcher library = Pattern.compile("\\b(Math|Integer|Long|System|Arrays|String|List|ArrayList)\\.(\\w+)").matcher(code);
        Set<String> listed = Set.of("Math.max", "Math.min", "Math.abs", "Integer.bitCount", "System.arraycopy");
        while (library.find()) {
            Due.holds("from the library: " + library.group(), listed.contains(library.group()));
        }
        int start = 0;
        String[] lines = whole.split("\n");
        for (int i = 0; i < lines.length; i++) {
            Due.holds("a line is short: " + lines[i], lines[i].length() <= 120);
            boolean opens = lines[i].endsWith("{") && !lines[i].contains(" class ") && lines[i].matches(" {4}( {4})?\\w.*\\) \\{");
            start = opens ? i : start;
            Due.holds("methods stay short: " + lines[start], !lines[i].matches(" {4}( {4})?\\}") || i - start <= 60 || lines[i].matches(" {4}\\}"));
        }
    }
}
