import java.util.HashSet;
import java.util.Set;

/** What the tests of single sentences share: each test has a name, which its answers are printed with, and objects of its own. */
abstract class Edges {
    static final int NONE = -1, BAD = -2, NO = -3, FULL = -4, SHORT = -5, ASKED = -10;
    static final int LOW = Integer.MIN_VALUE, HIGH = Integer.MAX_VALUE;

    private static final int BADS = 0, NOES = 1, FULLS = 2;
    private static final Set<String> NAMES = new HashSet<>();

    interface Told {
        void on(TentPegs x);
    }

    interface Call {
        long on(TentPegs x);
    }

    interface CallWith {
        long on(TentPegs x, int number);
    }

    /** The call answers so, behind what is told. */
    static void answers(String sentence, long want, Told told, Call call) {
        begin(sentence);
        Due.due(sentence, call.on(behind(told)), want);
    }

    static void answers(String sentence, long want, Call call) {
        answers(sentence, want, x -> { }, call);
    }

    /** The call answers so, and nothing at all is changed by it. */
    static void asks(String sentence, long want, Told told, Call call) {
        begin(sentence);
        TentPegs x = behind(told);
        TentPegs y = behind(told);
        Due.due(sentence, call.on(x), want);
        for (int what = BADS; what <= FULLS; what++) {
            Due.due(sentence + ", then status(" + what + ")", x.status(what), y.status(what));
        }
        goOnAlike(sentence, x, y);
    }

    /** The call answers so, counts as refused for that reason and no other, and changes nothing else. */
    private static void refuses(String sentence, int reason, long want, Told told, Call call) {
        begin(sentence);
        TentPegs x = behind(told);
        TentPegs y = behind(told);
        Due.due(sentence, call.on(x), want);
        for (int what = BADS; what <= FULLS; what++) {
            Due.due(sentence + ", then status(" + what + ")", x.status(what), y.status(what) + (what == reason ? 1 : 0));
        }
        goOnAlike(sentence, x, y);
    }

    static void bad(String sentence, long want, Told told, Call call) {
        refuses(sentence, BADS, want, told, call);
    }

    static void bad(String sentence, long want, Call call) {
        refuses(sentence, BADS, want, Edges::muchTold, call);
    }

    static void no(String sentence, Told told, Call call) {
        refuses(sentence, NOES, NO, told, call);
    }

    static void full(String sentence, Told told, Call call) {
        refuses(sentence, FULLS, FULL, told, call);
    }

    /** What the second of two calls answers: the first one comes ahead of it. */
    static long then(long first, long second) {
        return second;
    }

    /** A number of a call: what is below the least or above the most is refused, the least and the most are not. */
    static void range(String number, int least, int most, long want, Told told, CallWith call) {
        from(number, least, want, told, call);
        bad(number + ": too large", want, told, x -> call.on(x, most + 1));
        bad(number + ": far too large", want, told, x -> call.on(x, HIGH));
        isTaken(number + ": the most", told, x -> call.on(x, most));
    }

    static void range(String number, int least, int most, long want, CallWith call) {
        range(number, least, most, want, Edges::muchTold, call);
    }

    static void from(String number, int least, long want, Told told, CallWith call) {
        bad(number + ": too small", want, told, x -> call.on(x, least - 1));
        bad(number + ": far too small", want, told, x -> call.on(x, LOW));
        isTaken(number + ": the least", told, x -> call.on(x, least));
    }

    private static void isTaken(String sentence, Told told, Call call) {
        begin(sentence);
        TentPegs x = behind(told);
        int bads = x.status(BADS);
        call.on(x);
        Due.due(sentence + ", then status(0)", x.status(BADS), bads);
    }

    private static void begin(String sentence) {
        Due.holds("each test has a name of its own: " + sentence, NAMES.add(sentence));
    }

    private static TentPegs behind(Told told) {
        TentPegs x = new TentPegs();
        told.on(x);
        return x;
    }

    /** All that is kept is told and asked for: the same of both. */
    private static void goOnAlike(String sentence, TentPegs x, TentPegs y) {
        String then = sentence + ", then ";
        alike(then + "what is", x, y);
        Due.due(then + "read()", x.read(), y.read());
        alike(then + "what was read", x, y);
        for (int i = 0; i < 2; i++) {
            Due.due(then + "from(" + i + ")", x.from(i), y.from(i));
            alike(then + "image " + i, x, y);
        }
        Due.due(then + "clear()", x.clear(), y.clear());
    }

    private static void alike(String then, TentPegs x, TentPegs y) {
        Due.due(then, x.digest(), y.digest());
        for (int k = 0; k < y.count(0); k++) {
            Due.due(then + ", of(" + k + ", 3)", x.of(k, 3), y.of(k, 3));
            Due.due(then + ", of(" + k + ", 5)", x.of(k, 5), y.of(k, 5));
        }
        for (int left = y.count(4); left > 0; left--) {
            Due.due(then + ", undo()", x.undo(), y.undo());
            Due.due(then + ", undone", x.digest(), y.digest());
        }
        Due.due(then + ", undo()", x.undo(), y.undo());
    }

    /** Something of all that there is; pegs 0 to 3 stand, 4 is gone. */
    static void muchTold(TentPegs x) {
        x.wet(9);
        x.odds(7, 20);
        x.stand(6, false);
        x.image(1);
        x.tent(5);
        x.peg(0, 5, 7, 6);
        x.peg(1, 4, 9, 8);
        x.peg(3, 3, 6, 7);
        x.wet(3);
        x.wall(2, true);
        x.odds(0, 4);
        x.odds(6, 0);
        x.stand(4, false);
        x.image(0);
        x.gust(1, 4);
        x.worth(4, 30);
        x.tent(1);
        x.wall(2, true);
        type(x, "tent 4;wet 2;gone 3;");
    }

    /** The most of all that is counted. */
    static void muchOfAll(TentPegs x) {
        for (int k = 0; k < 8; k++) {
            x.peg(k, 5, 9, 9);
            x.wall(k, true);
            x.odds(k, 20);
            x.gust(k, 0);
        }
        x.wet(9);
        x.gust(0, 0);
        x.gust(0, 0);
        x.gust(0, 0);
        fill(x);
    }

    static void readTwo(TentPegs x) {
        Due.read(x, "tent 2;peg 0 1 2 3;gone 1;");
    }

    static void type(TentPegs x, String text) {
        for (char c : text.toCharArray()) {
            x.type(c);
        }
    }

    static void fill(TentPegs x) {
        for (int bytes = x.count(5); bytes < 150; bytes++) {
            x.type(' ');
        }
    }

    /** Pegs drawn and put back until so many changes may be undone, if they may. */
    static void changes(TentPegs x, int n) {
        for (int i = 0; i < n; i++) {
            x.stand(i % 8, i % 16 >= 8);
        }
    }

    static void noOdds(TentPegs x) {
        for (int way = 0; way < 8; way++) {
            x.odds(way, 0);
        }
    }

    /** All hold 121, which no gust takes. */
    static void strong(TentPegs x, int n) {
        x.tent(n);
        for (int k = 0; k < n; k++) {
            x.peg(k, 1, 9, 9);
        }
    }

    /** Two over against each other: 0 by north holds 10, 1 by south holds 20. */
    static void weakAndStrong(TentPegs x) {
        x.tent(2);
        x.peg(0, 0, 2, 5);
        x.peg(1, 0, 4, 5);
    }

    /** The strong one of them alone. */
    static void strongAlone(TentPegs x) {
        weakAndStrong(x);
        x.stand(0, false);
    }

    /** Peg 1 of four is zipped: by east it holds 36 with both beside it, 33 with one, 30 with none. */
    static void zippedByEast(TentPegs x) {
        x.tent(4);
        x.peg(1, 5, 5, 4);
    }

    /** Doubled in 4: by 0 of 30 they need 5, 4, 3, 2, 0, 2, 3 and 4 inches. */
    static void eight(TentPegs x) {
        int[] depths = {9, 4, 3, 2, 0, 0, 0, 5};
        for (int k = 0; k < 8; k++) {
            x.peg(k, 1, depths[k], 4);
        }
    }

    static void drawAll(TentPegs x) {
        for (int k = 0; k < x.count(0); k++) {
            x.stand(k, false);
        }
    }

    /** THE FRACTION as one number: neither above nor below comes near a thousand. */
    static long fraction(TentPegs x) {
        return 1000 * x.part(0) + x.part(1);
    }
}
