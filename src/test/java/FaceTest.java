import java.lang.reflect.Constructor;
import java.lang.reflect.Field;
import java.lang.reflect.Method;
import java.lang.reflect.Modifier;
import java.util.Arrays;
import java.util.Set;
import java.util.TreeSet;
import java.util.stream.Collectors;

/** The public face is the document's and no more: rule 1 of LANGUAGE.md. */
public final class FaceTest {
    private static final String[] METHODS = {
        "int tent(int)", "int peg(int,int,int,int)", "int wet(int)", "int wall(int,boolean)", "int odds(int,int)",
        "int type(int)", "int clear()", "int read()", "int gust(int,int)", "int stand(int,boolean)", "int undo()",
        "int of(int,int)", "int pull(int,int,int)", "int first(int,int,int)", "int lost(int,int,int)", "int bears(int)",
        "int twofold(int,int)", "int strokes(int,int,int)", "int chance(int)", "int turn(int)", "int worth(int,int)",
        "int setUp(int,int,int,int)", "int morning(int,int)", "int lent(int,int,int)", "int pence(int,int,int)",
        "int night(int,int,int,int)", "int wake(int,int,int)", "long part(int)", "int image(int)", "int from(int)",
        "int status(int)", "int count(int)", "long digest()"};

    public static void main(String[] args) {
        constants();
        methods();
        Due.end("FaceTest");
    }

    private static void constants() {
        Due.due("NONE", TentPegs.NONE, -1);
        Due.due("BAD", TentPegs.BAD, -2);
        Due.due("NO", TentPegs.NO, -3);
        Due.due("FULL", TentPegs.FULL, -4);
        int shown = 0;
        for (Field f : TentPegs.class.getDeclaredFields()) {
            shown += Modifier.isPrivate(f.getModifiers()) ? 0 : 1;
        }
        Due.due("fields that are shown", shown, 4);
    }

    private static void methods() {
        Set<String> shown = new TreeSet<>();
        Set<String> names = new TreeSet<>();
        for (Method m : TentPegs.class.getDeclaredMethods()) {
            if (Modifier.isPublic(m.getModifiers())) {
                String types = Arrays.stream(m.getParameterTypes()).map(Class::getName).collect(Collectors.joining(","));
                shown.add(m.getReturnType().getName() + " " + m.getName() + "(" + types + ")");
                names.add(m.getName());
            }
        }
        Due.holds("the methods are the document's: " + shown, shown.equals(new TreeSet<>(Arrays.asList(METHODS))));
        for (Method m : TentPegs.class.getDeclaredMethods()) {
            Due.holds("private or public: " + m, Modifier.isPublic(m.getModifiers()) || Modifier.isPrivate(m.getModifiers()));
            Due.holds("no private one has a public one's name: " + m, Modifier.isPublic(m.getModifiers()) || !names.contains(m.getName()));
        }
        Constructor<?>[] made = TentPegs.class.getDeclaredConstructors();
        Due.holds("one public constructor", made.length == 1 && Modifier.isPublic(made[0].getModifiers()) && made[0].getParameterCount() == 0);
        Due.holds("public and final", Modifier.isPublic(TentPegs.class.getModifiers()) && Modifier.isFinal(TentPegs.class.getModifiers()));
    }
}
