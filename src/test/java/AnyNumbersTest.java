import java.lang.reflect.InvocationTargetException;
import java.lang.reflect.Method;
import java.lang.reflect.Modifier;
import java.util.ArrayList;
import java.util.Comparator;
import java.util.List;

/** Rule 7 and all promises: each method with all numbers off and on its bounds, in some states, held against the Oracle. */
public final class AnyNumbersTest {
    private static final int LOW = Integer.MIN_VALUE, HIGH = Integer.MAX_VALUE;
    private static final int[] MANY = {LOW, LOW + 1, -1000, -10, -5, -3, -2, -1, 0, 1, 2, 3, 4, 5, 6, 7, 8, 9, 10, 15, 16, 20, 21,
        31, 32, 33, 60, 61, 64, 127, 128, 150, 255, 256, 999999, 1000000, HIGH - 1, HIGH};
    private static final int[] SOME = {LOW, -2, -1, 0, 1, 3, 4, 5, 6, 7, 8, 9, 10, 20, 21, 60, 61, 999999, 1000000, HIGH};
    private static final int[] FEW = {LOW, -2, -1, 0, 1, 4, 5, 6, 8, 9, 10, 60, 61, HIGH};
    private static final int STATES = 4, ANEW = 200;

    private final int state;
    private TentPegs x;
    private Oracle y;
    private int calls = 0;

    private AnyNumbersTest(int state) {
        this.state = state;
    }

    public static void main(String[] args) throws ReflectiveOperationException {
        List<Method> methods = new ArrayList<>();
        for (Method m : TentPegs.class.getDeclaredMethods()) {
            if (Modifier.isPublic(m.getModifiers())) {
                methods.add(m);
            }
        }
        methods.sort(Comparator.comparing(Method::getName));
        Due.due("methods", methods.size(), 33);
        for (int state = 0; state < STATES; state++) {
            for (Method m : methods) {
                AnyNumbersTest test = new AnyNumbersTest(state);
                test.begin();
                test.callAll(m, new Object[m.getParameterCount()], 0);
            }
        }
        Due.end("AnyNumbersTest");
    }

    private void callAll(Method m, Object[] told, int at) throws ReflectiveOperationException {
        if (at == told.length) {
            call(m, told);
        } else if (m.getParameterTypes()[at] == boolean.class) {
            for (boolean is : new boolean[] {true, false}) {
                told[at] = is;
                callAll(m, told, at + 1);
            }
        } else {
            for (int n : told.length > 3 ? FEW : told.length > 2 ? SOME : MANY) {
                told[at] = n;
                callAll(m, told, at + 1);
            }
        }
    }

    private void call(Method m, Object[] told) throws ReflectiveOperationException {
        calls++;
        if (calls % ANEW == 0) {
            begin();
        }
        StringBuilder name = new StringBuilder("state " + state + ": " + m.getName() + "(");
        for (Object t : told) {
            name.append(' ').append(t);
        }
        name.append(" )");
        Method of = Oracle.class.getDeclaredMethod(m.getName(), m.getParameterTypes());
        long want = ((Number) of.invoke(y, told)).longValue();
        try {
            Due.due(name.toString(), ((Number) m.invoke(x, told)).longValue(), want);
        } catch (InvocationTargetException e) {
            Due.holds("nothing is thrown: " + name + " " + e.getCause(), false);
        }
        Due.due(name + ", then digest()", x.digest(), y.digest());
        for (int what = 0; what < 3; what++) {
            Due.due(name + ", then status(" + what + ")", x.status(what), y.status(what));
        }
    }

    private void begin() {
        x = new TentPegs();
        y = new Oracle();
        switch (state) {
            case 0: tell(5); break;
            case 1: tell(2); lose(); break;
            case 2: tell(4); noOdds(); break;
            default: fill();
        }
    }

    private void tell(int n) {
        x.tent(n);
        y.tent(n);
        for (int k = 0; k < n; k++) {
            x.peg(k, 5 - k, 4 + k, 5);
            y.peg(k, 5 - k, 4 + k, 5);
        }
        x.wet(2);
        y.wet(2);
        x.wall(3, true);
        y.wall(3, true);
        x.image(1);
        y.image(1);
        x.stand(n - 1, false);
        y.stand(n - 1, false);
    }

    private void lose() {
        x.stand(0, false);
        y.stand(0, false);
    }

    private void noOdds() {
        for (int way = 0; way < 8; way++) {
            x.odds(way, 0);
            y.odds(way, 0);
        }
    }

    /** A tent of three whose text is full, and may be read. */
    private void fill() {
        for (int i = 0; i < 150; i++) {
            char c = i < 14 ? "tent 3;gone 2;".charAt(i) : ' ';
            x.type(c);
            y.type(c);
        }
        x.read();
        y.read();
    }
}
