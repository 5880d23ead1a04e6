import java.util.HashSet;
import java.util.Set;

/** What the tests of single sentences share: each test has a name, which its answers are printed with, and objects of its own. */
abstract class Edges {
    static final int NONE = -1, BAD = -2, NO = -3, FULL = -4, SHORT = -5, ASKED = -10;
    static final int LOW = Integer.MIN_VALUE, HIGH = Integer.MAX_VALUE;

    static final String TEXT = "tent 4;wet 2;gone 3;";

    private static final int BADS = 0, NOES = 1, FULLS = 2;
    private static final Set<String> NAMES = new HashSet<>();

    /** Each has objects of its own, as one look might hide what the next one would show; the reasons come first. */
    private static final Call[] LOOKS = {
        x -> x.status(BADS), x -> x.status(NOES), x -> x.status(FULLS), Edges::field, Edges::allUndone, Edges::wasRead,
        x -> wasKept(x, 0), x -> wasKept(x, 1), x -> x.clear()};
    private static final String[] LOOKS_AT = {
        "status(0)", "status(1)", "status(2)", "the field", "the field, undone", "what is read",
        "image 0", "image 1", "clear()"};

    interface Told {
        void on(TentPegs x);
    }

    interface Call {
        long on(TentPegs x);
    }

    interface CallWith {
        long on(TentPegs x, int number);
    }

    /** The call answers so, behind what is told. */
    static void answers(String sentence, long want, Told told, Call call) {
        begin(sentence);
        Due.due(sentence, call.on(behind(told)), want);
    }

    static void answers(String sentence, long want, Call call) {
        answers(sentence, want, x -> { }, call);
    }

    /** The call answers so, and nothing at all is changed by it. */
    static void asks(String sentence, long want, Told told, Call call) {
        begin(sentence);
        Due.due(sentence, call.on(behind(told)), want);
        changesAtMost(sentence, NONE, told, call::on);
    }

    /** The call answers so, counts as refused for that reason and no other, and changes nothing else. */
    private static void refuses(String sentence, int reason, long want, Told told, Call call) {
        begin(sentence);
        Due.due(sentence, call.on(behind(told)), want);
        changesAtMost(sentence, reason, told, call::on);
    }

    /** Calls by which all comes back to what it was leave nothing else changed. */
    static void comesBack(String sentence, Told told, Told thereAndBack) {
        begin(sentence);
        changesAtMost(sentence, NONE, told, thereAndBack);
    }

    static void bad(String sentence, long want, Told told, Call call) {
        refuses(sentence, BADS, want, told, call);
    }

    static void bad(String sentence, long want, Call call) {
        refuses(sentence, BADS, want, Edges::muchTold, call);
    }

    static void no(String sentence, Told told, Call call) {
        refuses(sentence, NOES, NO, told, call);
    }

    static void full(String sentence, Told told, Call call) {
        refuses(sentence, FULLS, FULL, told, call);
    }

    /** What the second of two calls answers: the first one comes ahead of it. */
    static long then(long first, long second) {
        return second;
    }

    /** A number of a call: what is below the least or above the most is refused, the least and the most are not. */
    static void range(String number, int least, int most, long want, Told told, CallWith call) {
        from(number, least, want, told, call);
        bad(number + ": too large", want, told, x -> call.on(x, most + 1));
        bad(number + ": far too large", want, told, x -> call.on(x, HIGH));
        isTaken(number + ": the most", told, x -> call.on(x, most));
    }

    static void range(String number, int least, int most, long want, CallWith call) {
        range(number, least, most, want, Edges::muchTold, call);
    }

    static void from(String number, int least, long want, Told told, CallWith call) {
        bad(number + ": too small", want, told, x -> call.on(x, least - 1));
        bad(number + ": far too small", want, told, x -> call.on(x, LOW));
        isTaken(number + ": the least", told, x -> call.on(x, least));
    }

    private static void isTaken(String sentence, Told told, Call call) {
        begin(sentence);
        TentPegs x = behind(told);
        int bads = x.status(BADS);
        call.on(x);
        Due.due(sentence + ", then status(0)", x.status(BADS), bads);
    }

    private static void begin(String sentence) {
        Due.holds("each test has a name of its own: " + sentence, NAMES.add(sentence));
    }

    private static TentPegs behind(Told told) {
        TentPegs x = new TentPegs();
        told.on(x);
        return x;
    }

    /** Nothing but how often was refused for that reason; none: not that either. */
    private static void changesAtMost(String sentence, int reason, Told told, Told calls) {
        for (int i = 0; i < LOOKS.length; i++) {
            TentPegs x = behindMore(told);
            TentPegs y = behindMore(told);
            calls.on(x);
            Due.due(sentence + ", then " + LOOKS_AT[i], LOOKS[i].on(x), LOOKS[i].on(y) + (i == reason ? 1 : 0));
        }
    }

    /** Ahead of what is told stands something that a call might change: each of STATUS, of pegs, of odds. */
    private static TentPegs behindMore(Told told) {
        TentPegs x = new TentPegs();
        x.tent(1);
        x.undo();
        x.undo();
        fill(x);
        for (int i = 0; i < 3; i++) {
            x.type('x');
        }
        x.clear();
        x.peg(0, 3, 8, 7);
        x.peg(7, 4, 7, 6);
        x.wet(5);
        x.odds(0, 3);
        x.odds(7, 5);
        x.worth(2, 20);
        told.on(x);
        return x;
    }

    private static long field(TentPegs x) {
        long h = x.digest();
        for (int k = 0; k < x.count(0); k++) {
            h = 31 * h + x.of(k, 3);
            h = 31 * h + x.of(k, 5);
        }
        return h;
    }

    private static long allUndone(TentPegs x) {
        long h = field(x);
        for (int left = x.count(4); left > 0; left--) {
            h = 31 * h + x.undo();
            h = 31 * h + field(x);
        }
        return h;
    }

    private static long wasRead(TentPegs x) {
        long h = x.read();
        return 31 * h + allUndone(x);
    }

    private static long wasKept(TentPegs x, int image) {
        long h = x.from(image);
        return 31 * h + allUndone(x);
    }

    /** Something of all that there is; pegs 0 to 3 stand, 4 is gone. */
    static void muchTold(TentPegs x) {
        x.wet(9);
        x.odds(7, 20);
        x.stand(6, false);
        x.image(1);
        x.tent(5);
        x.peg(0, 5, 7, 6);
        x.peg(1, 4, 9, 8);
        x.peg(3, 3, 6, 7);
        x.peg(4, 2, 5, 4);
        x.wet(3);
        x.wall(2, true);
        x.odds(0, 4);
        x.odds(6, 0);
        x.tent(1);
        x.wall(2, true);
        x.stand(4, false);
        x.image(0);
        x.gust(1, 4);
        x.worth(4, 30);
        type(x, TEXT);
    }

    /** Much told, a full text, behind it a field that was not there before, and calls refused by each reason. */
    static void allTold(TentPegs x) {
        muchTold(x);
        fill(x);
        x.stand(3, false);
        beRefused(x);
    }

    /** An image is as the field is, the other one is not. */
    static void allTold(TentPegs x, int image) {
        allTold(x);
        x.image(image);
        x.clear();
        x.worth(4, 30);
        type(x, TEXT);
        fill(x);
        beRefused(x);
    }

    /** The text must be full. */
    private static void beRefused(TentPegs x) {
        x.wet(10);
        x.wall(2, true);
        x.type('x');
        x.type('x');
    }

    /** The most of all that is counted. */
    static void muchOfAll(TentPegs x) {
        for (int k = 0; k < 8; k++) {
            x.peg(k, 5, 9, 9);
            x.wall(k, true);
            x.odds(k, 20);
            x.gust(k, 0);
        }
        x.wet(9);
        x.gust(0, 0);
        x.gust(0, 0);
        x.gust(0, 0);
        fill(x);
    }

    static void readTwo(TentPegs x) {
        Due.read(x, "tent 2;peg 0 1 2 3;gone 1;");
    }

    static void type(TentPegs x, String text) {
        for (char c : text.toCharArray()) {
            x.type(c);
        }
    }

    static void fill(TentPegs x) {
        for (int bytes = x.count(5); bytes < 150; bytes++) {
            x.type(' ');
        }
    }

    /** Pegs drawn and put back until so many changes may be undone, if they may. */
    static void changes(TentPegs x, int n) {
        for (int i = 0; i < n; i++) {
            x.stand(i % 8, i % 16 >= 8);
        }
    }

    static void noOdds(TentPegs x) {
        for (int way = 0; way < 8; way++) {
            x.odds(way, 0);
        }
    }

    /** All hold 121, which no gust takes. */
    static void strong(TentPegs x, int n) {
        x.tent(n);
        for (int k = 0; k < n; k++) {
            x.peg(k, 1, 9, 9);
        }
    }

    /** Two over against each other: 0 by north holds 10, 1 by south holds 20. */
    static void weakAndStrong(TentPegs x) {
        x.tent(2);
        x.peg(0, 0, 2, 5);
        x.peg(1, 0, 4, 5);
    }

    /** The strong one of them alone. */
    static void strongAlone(TentPegs x) {
        weakAndStrong(x);
        x.stand(0, false);
    }

    /** Peg 1 of four is zipped: by east it holds 36 with both beside it, 33 with one, 30 with none. */
    static void zippedByEast(TentPegs x) {
        x.tent(4);
        x.peg(1, 5, 5, 4);
    }

    /** Doubled in 4: by 0 of 30 they need 5, 4, 3, 2, 0, 2, 3 and 4 inches. */
    static void eight(TentPegs x) {
        int[] depths = {9, 4, 3, 2, 0, 0, 0, 5};
        for (int k = 0; k < 8; k++) {
            x.peg(k, 1, depths[k], 4);
        }
    }

    static void drawAll(TentPegs x) {
        for (int k = 0; k < x.count(0); k++) {
            x.stand(k, false);
        }
    }

    /** THE FRACTION as one number: neither above nor below comes near a thousand. */
    static long fraction(TentPegs x) {
        return 1000 * x.part(0) + x.part(1);
    }
}
